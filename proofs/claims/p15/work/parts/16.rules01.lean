theorem eX4_stays {d : Nat} {Q : Int → yM → Prop} {M : yM} {x1 : Nat} {x2 : Int} {x3 : Int} {x4 : Int}  (h : XW kX4_stays d (some .boolean) (wQi Q) 0 [some (.inr (.inr 56)), some (.inr (.inr x1)), some (.inl x2), some (.inl x3), some (.inr (.inl x4)), none] [] M) : XCi d 34 [.inr (.inr 56), .inr (.inr x1), .inl x2, .inl x3, .inr (.inl x4)] M Q :=
  XC.ofW (Mm := (yX4_stays, cX4_stays, 6, (some .boolean), 5, kX4_stays)) rfl (rcv_ok sh56) rfl rfl h
theorem uX4_stays_0 {d : Nat} {Q : Int → yM → Prop} {M : yM} {x1 : Nat} {x2 : Int} {x3 : Int} {x4 : Int} (h1 : arrSh x1 64) (k : ∀ M', M' = (cpy M x1 64 0 0 64) → XW kX4_stays d (some .boolean) (wQi Q) 12 [some (.inr (.inr 56)), some (.inr (.inr x1)), some (.inl x2), some (.inl x3), some (.inr (.inl x4)), none] [] M') : XW kX4_stays d (some .boolean) (wQi Q) 0 [some (.inr (.inr 56)), some (.inr (.inr x1)), some (.inl x2), some (.inl x3), some (.inr (.inl x4)), none] [] M := by
  refine x_aload_n rfl rfl ?_
  refine x_iconst 0 rfl (by decide) ?_
  refine x_aload_n rfl rfl ?_
  refine x_getR rfl sh56 rfl ?_
  refine x_iconst 0 rfl (by decide) ?_
  refine x_bipush 64 rfl (by decide) ?_
  refine x_cpy rfl h1 ⟨sh64, Nat.le_of_ble_eq_true rfl⟩ (by decide) (Nat.le_of_ble_eq_true rfl) ?_
  exact k _ rfl
theorem uX4_stays_12 {d : Nat} {Q : Int → yM → Prop} {M : yM} {x1 : Nat} {x2 : Int} {x3 : Int} {x4 : Int} (k : XCv d 58 [.inr (.inr 21), .inr (.inr 64), .inl x2, .inl x3] M (fun M' => XW kX4_stays (d + 1) (some .boolean) (wQi Q) 25 [some (.inr (.inr 56)), some (.inr (.inr x1)), some (.inl x2), some (.inl x3), some (.inr (.inl x4)), none] [] M')) : XW kX4_stays (d + 1) (some .boolean) (wQi Q) 12 [some (.inr (.inr 56)), some (.inr (.inr x1)), some (.inl x2), some (.inl x3), some (.inr (.inl x4)), none] [] M := by
  refine x_aload_n rfl rfl ?_
  refine x_getR rfl sh56 rfl ?_
  refine x_aload_n rfl rfl ?_
  refine x_getR rfl sh56 rfl ?_
  refine x_iload_n rfl rfl ?_
  refine x_iload_n rfl rfl ?_
  exact x_callv (args := [.inr (.inr 21), .inr (.inr 64), .inl x2, .inl x3]) rfl rfl rfl k
theorem uX4_stays_25 {d : Nat} {Q : Int → yM → Prop} {M : yM} {x1 : Nat} {x2 : Int} {x3 : Int} {x4 : Int} (k : XCi d 57 [.inr (.inr 21), .inr (.inr 64), .inl (ld M 19 0), .inr (.inl (zor x4 (zshl 1 x2)))] M (fun v M' => XW kX4_stays (d + 1) (some .boolean) (wQi Q) 49 [some (.inr (.inr 56)), some (.inr (.inr x1)), some (.inl x2), some (.inl x3), some (.inr (.inl x4)), none] [.inl v] M')) : XW kX4_stays (d + 1) (some .boolean) (wQi Q) 25 [some (.inr (.inr 56)), some (.inr (.inr x1)), some (.inl x2), some (.inl x3), some (.inr (.inl x4)), none] [] M := by
  refine x_aload_n rfl rfl ?_
  refine x_getR rfl sh56 rfl ?_
  refine x_aload_n rfl rfl ?_
  refine x_getR rfl sh56 rfl ?_
  refine x_aload_n rfl rfl ?_
  refine x_getR rfl sh56 rfl ?_
  refine x_getI rfl sh19 rfl ?_
  refine x_lload rfl rfl ?_
  refine x_lconst 1 rfl (by decide) ?_
  refine x_iload_n rfl rfl ?_
  refine x_lshl rfl ?_
  refine x_lor rfl ?_
  exact x_calli (args := [.inr (.inr 21), .inr (.inr 64), .inl (ld M 19 0), .inr (.inl (zor x4 (zshl 1 x2)))]) rfl rfl rfl k
theorem uX4_stays_49 {d : Nat} {Q : Int → yM → Prop} {M : yM} {x1 : Nat} {x2 : Int} {x3 : Int} {x4 : Int} {s0 : Int} (h1 : s0 = 0 ∨ s0 = 1) (k : Q s0 M) : XW kX4_stays d (some .boolean) (wQi Q) 49 [some (.inr (.inr 56)), some (.inr (.inr x1)), some (.inl x2), some (.inl x3), some (.inr (.inl x4)), none] [.inl s0] M := by
  exact x_zreturn rfl h1 k
theorem eX5_free {d : Nat} {Q : yM → Prop} {M : yM} {x1 : Int} {x2 : Int}  (h : XW kX5_free d none (wQv Q) 0 [some (.inr (.inr 19)), some (.inl x1), some (.inl x2), none, none] [] M) : XCv d 36 [.inr (.inr 19), .inl x1, .inl x2] M Q :=
  XC.ofW (Mm := (yX5_free, cX5_free, 5, none, 6, kX5_free)) rfl (rcv_ok sh19) rfl rfl h
theorem uX5_free_0 {d : Nat} {Q : yM → Prop} {M : yM} {x1 : Int} {x2 : Int} (k : ∀ M', M' = (put M 19 0 x1) → XW kX5_free d none (wQv Q) 5 [some (.inr (.inr 19)), some (.inl x1), some (.inl x2), none, none] [] M') : XW kX5_free d none (wQv Q) 0 [some (.inr (.inr 19)), some (.inl x1), some (.inl x2), none, none] [] M := by
  refine x_aload_n rfl rfl ?_
  refine x_iload_n rfl rfl ?_
  refine x_putI rfl rfl sh19 rfl ?_
  exact k _ rfl
theorem uX5_free_5 {d : Nat} {Q : yM → Prop} {M : yM} {x1 : Int} {x2 : Int} (k : XW kX5_free d none (wQv Q) 7 [some (.inr (.inr 19)), some (.inl x1), some (.inl x2), some (.inl 0), none] [] M) : XW kX5_free d none (wQv Q) 5 [some (.inr (.inr 19)), some (.inl x1), some (.inl x2), none, none] [] M := by
  refine x_iconst 0 rfl (by decide) ?_
  refine x_istore_n rfl (Nat.le_of_ble_eq_true rfl) rfl ?_
  exact k
theorem uX5_free_7 {d : Nat} {Q : yM → Prop} {M : yM} {x1 : Int} {x2 : Int} {x3 : Int} {wx4 : Option yV} (h1 : -2147483648 ≤ x3 ∧ x3 < 2147483648) (kt : x3 ≥ 8 → XW kX5_free d none (wQv Q) 58 [some (.inr (.inr 19)), some (.inl x1), some (.inl x2), some (.inl x3), wx4] [] M) (kf : x3 < 8 → XW kX5_free d none (wQv Q) 13 [some (.inr (.inr 19)), some (.inl x1), some (.inl x2), some (.inl x3), wx4] [] M) : XW kX5_free d none (wQv Q) 7 [some (.inr (.inr 19)), some (.inl x1), some (.inl x2), some (.inl x3), wx4] [] M := by
  refine x_iload_n rfl rfl ?_
  refine x_bipush 8 rfl (by decide) ?_
  exact x_icmpge rfl h1 (by decide) kt kf
theorem uX5_free_13 {d : Nat} {Q : yM → Prop} {M : yM} {x1 : Int} {x2 : Int} {x3 : Int} {wx4 : Option yV} (k : XW kX5_free d none (wQv Q) 16 [some (.inr (.inr 19)), some (.inl x1), some (.inl x2), some (.inl x3), some (.inl 0)] [] M) : XW kX5_free d none (wQv Q) 13 [some (.inr (.inr 19)), some (.inl x1), some (.inl x2), some (.inl x3), wx4] [] M := by
  refine x_iconst 0 rfl (by decide) ?_
  refine x_istore rfl (Nat.le_of_ble_eq_true rfl) rfl ?_
  exact k
theorem uX5_free_16 {d : Nat} {Q : yM → Prop} {M : yM} {x1 : Int} {x2 : Int} {x3 : Int} {x4 : Int} (h1 : -2147483648 ≤ x4 ∧ x4 < 2147483648) (kt : x4 ≥ 8 → XW kX5_free d none (wQv Q) 52 [some (.inr (.inr 19)), some (.inl x1), some (.inl x2), some (.inl x3), some (.inl x4)] [] M) (kf : x4 < 8 → XW kX5_free d none (wQv Q) 23 [some (.inr (.inr 19)), some (.inl x1), some (.inl x2), some (.inl x3), some (.inl x4)] [] M) : XW kX5_free d none (wQv Q) 16 [some (.inr (.inr 19)), some (.inl x1), some (.inl x2), some (.inl x3), some (.inl x4)] [] M := by
  refine x_iload rfl rfl ?_
  refine x_bipush 8 rfl (by decide) ?_
  exact x_icmpge rfl h1 (by decide) kt kf
theorem uX5_free_23 {d : Nat} {Q : yM → Prop} {M : yM} {x1 : Int} {x2 : Int} {x3 : Int} {x4 : Int} (h1 : -2147483648 ≤ x3 ∧ x3 < 2147483648) (h2 : -2147483648 ≤ x4 ∧ x4 < 2147483648) (kt : x3 ≠ x4 → XW kX5_free d none (wQv Q) 44 [some (.inr (.inr 19)), some (.inl x1), some (.inl x2), some (.inl x3), some (.inl x4)] [.inl ((8 * x3) + x4), .inr (.inr 20)] M) (kf : x3 = x4 → XW kX5_free d none (wQv Q) 40 [some (.inr (.inr 19)), some (.inl x1), some (.inl x2), some (.inl x3), some (.inl x4)] [.inl ((8 * x3) + x4), .inr (.inr 20)] M) : XW kX5_free d none (wQv Q) 23 [some (.inr (.inr 19)), some (.inl x1), some (.inl x2), some (.inl x3), some (.inl x4)] [] M := by
  refine x_aload_n rfl rfl ?_
  refine x_getR rfl sh19 rfl ?_
  refine x_bipush 8 rfl (by decide) ?_
  refine x_iload_n rfl rfl ?_
  refine x_imul rfl ?_
  refine x_iload rfl rfl ?_
  refine x_iadd rfl ?_
  refine x_iload_n rfl rfl ?_
  refine x_iload rfl rfl ?_
  exact x_icmpne rfl h1 h2 kt kf
theorem uX5_free_40 {d : Nat} {Q : yM → Prop} {M : yM} {x1 : Int} {x2 : Int} {x3 : Int} {x4 : Int} {s0 : Int} (k : XW kX5_free d none (wQv Q) 45 [some (.inr (.inr 19)), some (.inl x1), some (.inl x2), some (.inl x3), some (.inl x4)] [.inl 1, .inl s0, .inr (.inr 20)] M) : XW kX5_free d none (wQv Q) 40 [some (.inr (.inr 19)), some (.inl x1), some (.inl x2), some (.inl x3), some (.inl x4)] [.inl s0, .inr (.inr 20)] M := by
  refine x_iconst 1 rfl (by decide) ?_
  exact x_goto rfl k
theorem uX5_free_44 {d : Nat} {Q : yM → Prop} {M : yM} {x1 : Int} {x2 : Int} {x3 : Int} {x4 : Int} {s0 : Int} (k : XW kX5_free d none (wQv Q) 45 [some (.inr (.inr 19)), some (.inl x1), some (.inl x2), some (.inl x3), some (.inl x4)] [.inl x2, .inl s0, .inr (.inr 20)] M) : XW kX5_free d none (wQv Q) 44 [some (.inr (.inr 19)), some (.inl x1), some (.inl x2), some (.inl x3), some (.inl x4)] [.inl s0, .inr (.inr 20)] M := by
  refine x_iload_n rfl rfl ?_
  exact k
theorem uX5_free_45 {d : Nat} {Q : yM → Prop} {M : yM} {x1 : Int} {x2 : Int} {x3 : Int} {x4 : Int} {s0 : Int} {s1 : Int} (h1 : 0 ≤ s1 ∧ s1 < 64) (k : ∀ M', M' = (put M 20 s1 s0) → XW kX5_free d none (wQv Q) 46 [some (.inr (.inr 19)), some (.inl x1), some (.inl x2), some (.inl x3), some (.inl x4)] [] M') : XW kX5_free d none (wQv Q) 45 [some (.inr (.inr 19)), some (.inl x1), some (.inl x2), some (.inl x3), some (.inl x4)] [.inl s0, .inl s1, .inr (.inr 20)] M := by
  refine x_iastore rfl ⟨sh20, Nat.le_of_ble_eq_true rfl⟩ h1  ?_
  exact k _ rfl
theorem uX5_free_46 {d : Nat} {Q : yM → Prop} {M : yM} {x1 : Int} {x2 : Int} {x3 : Int} {x4 : Int} (k : XW kX5_free d none (wQv Q) 16 [some (.inr (.inr 19)), some (.inl x1), some (.inl x2), some (.inl x3), some (.inl (x4 + 1))] [] M) : XW kX5_free d none (wQv Q) 46 [some (.inr (.inr 19)), some (.inl x1), some (.inl x2), some (.inl x3), some (.inl x4)] [] M := by
  refine x_iinc 1 rfl (by decide) rfl rfl ?_
  exact x_goto rfl k
theorem uX5_free_52 {d : Nat} {Q : yM → Prop} {M : yM} {x1 : Int} {x2 : Int} {x3 : Int} {x4 : Int} (k : XW kX5_free d none (wQv Q) 7 [some (.inr (.inr 19)), some (.inl x1), some (.inl x2), some (.inl (x3 + 1)), some (.inl x4)] [] M) : XW kX5_free d none (wQv Q) 52 [some (.inr (.inr 19)), some (.inl x1), some (.inl x2), some (.inl x3), some (.inl x4)] [] M := by
  refine x_iinc 1 rfl (by decide) rfl rfl ?_
  exact x_goto rfl k
theorem uX5_free_58 {d : Nat} {Q : yM → Prop} {M : yM} {x1 : Int} {x2 : Int} {x3 : Int} {wx4 : Option yV} (k : Q M) : XW kX5_free d none (wQv Q) 58 [some (.inr (.inr 19)), some (.inl x1), some (.inl x2), some (.inl x3), wx4] [] M := by
  exact x_return rfl k
theorem eX5_has {d : Nat} {Q : Int → yM → Prop} {M : yM} {x1 : Int}  (h : XW kX5_has d (some .boolean) (wQi Q) 0 [some (.inr (.inr 19)), some (.inl x1)] [] M) : XCi d 37 [.inr (.inr 19), .inl x1] M Q :=
  XC.ofW (Mm := (yX5_has, cX5_has, 2, (some .boolean), 6, kX5_has)) rfl (rcv_ok sh19) rfl rfl h
theorem uX5_has_0 {d : Nat} {Q : Int → yM → Prop} {M : yM} {x1 : Int} (h1 : -2147483648 ≤ x1 ∧ x1 < 2147483648) (kt : x1 < 0 → XW kX5_has d (some .boolean) (wQi Q) 16 [some (.inr (.inr 19)), some (.inl x1)] [] M) (kf : x1 ≥ 0 → XW kX5_has d (some .boolean) (wQi Q) 4 [some (.inr (.inr 19)), some (.inl x1)] [] M) : XW kX5_has d (some .boolean) (wQi Q) 0 [some (.inr (.inr 19)), some (.inl x1)] [] M := by
  refine x_iload_n rfl rfl ?_
  exact x_iflt rfl h1 kt kf
theorem uX5_has_4 {d : Nat} {Q : Int → yM → Prop} {M : yM} {x1 : Int} (h1 : -2147483648 ≤ x1 ∧ x1 < 2147483648) (kt : x1 ≥ (ld M 19 0) → XW kX5_has d (some .boolean) (wQi Q) 16 [some (.inr (.inr 19)), some (.inl x1)] [] M) (kf : x1 < (ld M 19 0) → XW kX5_has d (some .boolean) (wQi Q) 12 [some (.inr (.inr 19)), some (.inl x1)] [] M) : XW kX5_has d (some .boolean) (wQi Q) 4 [some (.inr (.inr 19)), some (.inl x1)] [] M := by
  refine x_iload_n rfl rfl ?_
  refine x_aload_n rfl rfl ?_
  refine x_getI rfl sh19 rfl ?_
  exact x_icmpge rfl h1 (rng_ld _ _ _) kt kf
theorem uX5_has_12 {d : Nat} {Q : Int → yM → Prop} {M : yM} {x1 : Int} (k : XW kX5_has d (some .boolean) (wQi Q) 17 [some (.inr (.inr 19)), some (.inl x1)] [.inl 1] M) : XW kX5_has d (some .boolean) (wQi Q) 12 [some (.inr (.inr 19)), some (.inl x1)] [] M := by
  refine x_iconst 1 rfl (by decide) ?_
  exact x_goto rfl k
theorem uX5_has_16 {d : Nat} {Q : Int → yM → Prop} {M : yM} {x1 : Int} (k : XW kX5_has d (some .boolean) (wQi Q) 17 [some (.inr (.inr 19)), some (.inl x1)] [.inl 0] M) : XW kX5_has d (some .boolean) (wQi Q) 16 [some (.inr (.inr 19)), some (.inl x1)] [] M := by
  refine x_iconst 0 rfl (by decide) ?_
  exact k
theorem uX5_has_17 {d : Nat} {Q : Int → yM → Prop} {M : yM} {x1 : Int} {s0 : Int} (h1 : s0 = 0 ∨ s0 = 1) (k : Q s0 M) : XW kX5_has d (some .boolean) (wQi Q) 17 [some (.inr (.inr 19)), some (.inl x1)] [.inl s0] M := by
  exact x_zreturn rfl h1 k
theorem eX6_forget {d : Nat} {Q : yM → Prop} {M : yM}   (h : XW kX6_forget d none (wQv Q) 0 [some (.inr (.inr 69))] [] M) : XCv d 39 [.inr (.inr 69)] M Q :=
  XC.ofW (Mm := (yX6_forget, cX6_forget, 1, none, 7, kX6_forget)) rfl (rcv_ok sh69) rfl rfl h
theorem uX6_forget_0 {d : Nat} {Q : yM → Prop} {M : yM}  (k : ∀ M', M' = (put M 69 9 0) → XW kX6_forget d none (wQv Q) 5 [some (.inr (.inr 69))] [] M') : XW kX6_forget d none (wQv Q) 0 [some (.inr (.inr 69))] [] M := by
  refine x_aload_n rfl rfl ?_
  refine x_iconst 0 rfl (by decide) ?_
  refine x_putZ rfl rfl sh69 rfl (by decide) ?_
  exact k _ rfl
theorem uX6_forget_5 {d : Nat} {Q : yM → Prop} {M : yM}  (k : Q M) : XW kX6_forget d none (wQv Q) 5 [some (.inr (.inr 69))] [] M := by
  exact x_return rfl k
theorem eX6_listPairs {d : Nat} {Q : Int → yM → Prop} {M : yM}   (h : XW kX6_listPairs d (some .boolean) (wQi Q) 0 [some (.inr (.inr 69)), none, none] [] M) : XCi d 40 [.inr (.inr 69)] M Q :=
  XC.ofW (Mm := (yX6_listPairs, cX6_listPairs, 3, (some .boolean), 7, kX6_listPairs)) rfl (rcv_ok sh69) rfl rfl h
theorem uX6_listPairs_0 {d : Nat} {Q : Int → yM → Prop} {M : yM}  (k : ∀ M', M' = (put M 69 6 0) → XW kX6_listPairs d (some .boolean) (wQi Q) 5 [some (.inr (.inr 69)), none, none] [] M') : XW kX6_listPairs d (some .boolean) (wQi Q) 0 [some (.inr (.inr 69)), none, none] [] M := by
  refine x_aload_n rfl rfl ?_
  refine x_iconst 0 rfl (by decide) ?_
  refine x_putI rfl rfl sh69 rfl ?_
  exact k _ rfl
theorem uX6_listPairs_5 {d : Nat} {Q : Int → yM → Prop} {M : yM}  (k : XW kX6_listPairs d (some .boolean) (wQi Q) 7 [some (.inr (.inr 69)), some (.inl 0), none] [] M) : XW kX6_listPairs d (some .boolean) (wQi Q) 5 [some (.inr (.inr 69)), none, none] [] M := by
  refine x_iconst 0 rfl (by decide) ?_
  refine x_istore_n rfl (Nat.le_of_ble_eq_true rfl) rfl ?_
  exact k
theorem uX6_listPairs_7 {d : Nat} {Q : Int → yM → Prop} {M : yM} {x1 : Int} {wx2 : Option yV} (h1 : -2147483648 ≤ x1 ∧ x1 < 2147483648) (kt : x1 ≥ (ld M 19 0) → XW kX6_listPairs d (some .boolean) (wQi Q) 105 [some (.inr (.inr 69)), some (.inl x1), wx2] [] M) (kf : x1 < (ld M 19 0) → XW kX6_listPairs d (some .boolean) (wQi Q) 18 [some (.inr (.inr 69)), some (.inl x1), wx2] [] M) : XW kX6_listPairs d (some .boolean) (wQi Q) 7 [some (.inr (.inr 69)), some (.inl x1), wx2] [] M := by
  refine x_iload_n rfl rfl ?_
  refine x_aload_n rfl rfl ?_
  refine x_getR rfl sh69 rfl ?_
  refine x_getI rfl sh19 rfl ?_
  exact x_icmpge rfl h1 (rng_ld _ _ _) kt kf
theorem uX6_listPairs_18 {d : Nat} {Q : Int → yM → Prop} {M : yM} {x1 : Int} {wx2 : Option yV} (k : XW kX6_listPairs d (some .boolean) (wQi Q) 22 [some (.inr (.inr 69)), some (.inl x1), some (.inl (x1 + 1))] [] M) : XW kX6_listPairs d (some .boolean) (wQi Q) 18 [some (.inr (.inr 69)), some (.inl x1), wx2] [] M := by
  refine x_iload_n rfl rfl ?_
  refine x_iconst 1 rfl (by decide) ?_
  refine x_iadd rfl ?_
  refine x_istore_n rfl (Nat.le_of_ble_eq_true rfl) rfl ?_
  exact k
theorem uX6_listPairs_22 {d : Nat} {Q : Int → yM → Prop} {M : yM} {x1 : Int} {x2 : Int} (h1 : -2147483648 ≤ x2 ∧ x2 < 2147483648) (kt : x2 ≥ (ld M 19 0) → XW kX6_listPairs d (some .boolean) (wQi Q) 99 [some (.inr (.inr 69)), some (.inl x1), some (.inl x2)] [] M) (kf : x2 < (ld M 19 0) → XW kX6_listPairs d (some .boolean) (wQi Q) 33 [some (.inr (.inr 69)), some (.inl x1), some (.inl x2)] [] M) : XW kX6_listPairs d (some .boolean) (wQi Q) 22 [some (.inr (.inr 69)), some (.inl x1), some (.inl x2)] [] M := by
  refine x_iload_n rfl rfl ?_
  refine x_aload_n rfl rfl ?_
  refine x_getR rfl sh69 rfl ?_
  refine x_getI rfl sh19 rfl ?_
  exact x_icmpge rfl h1 (rng_ld _ _ _) kt kf
theorem uX6_listPairs_33 {d : Nat} {Q : Int → yM → Prop} {M : yM} {x1 : Int} {x2 : Int} (h1 : 0 ≤ ((8 * x1) + x2) ∧ ((8 * x1) + x2) < 64) (k : XCi d 60 [.inr (.inr 1)] M (fun v M' => XW kX6_listPairs (d + 1) (some .boolean) (wQi Q) 54 [some (.inr (.inr 69)), some (.inl x1), some (.inl x2)] [.inl v, .inl (ld M 20 ((8 * x1) + x2))] M')) : XW kX6_listPairs (d + 1) (some .boolean) (wQi Q) 33 [some (.inr (.inr 69)), some (.inl x1), some (.inl x2)] [] M := by
  refine x_aload_n rfl rfl ?_
  refine x_getR rfl sh69 rfl ?_
  refine x_getR rfl sh19 rfl ?_
  refine x_bipush 8 rfl (by decide) ?_
  refine x_iload_n rfl rfl ?_
  refine x_imul rfl ?_
  refine x_iload_n rfl rfl ?_
  refine x_iadd rfl ?_
  refine x_iaload rfl ⟨sh20, Nat.le_of_ble_eq_true rfl⟩ h1 ?_
  refine x_aload_n rfl rfl ?_
  refine x_getR rfl sh69 rfl ?_
  exact x_calli (args := [.inr (.inr 1)]) rfl rfl rfl k
theorem uX6_listPairs_54 {d : Nat} {Q : Int → yM → Prop} {M : yM} {x1 : Int} {x2 : Int} {s0 : Int} {s1 : Int} (h1 : -2147483648 ≤ s1 ∧ s1 < 2147483648) (h2 : -2147483648 ≤ s0 ∧ s0 < 2147483648) (kt : s1 = s0 → XW kX6_listPairs d (some .boolean) (wQi Q) 93 [some (.inr (.inr 69)), some (.inl x1), some (.inl x2)] [] M) (kf : s1 ≠ s0 → XW kX6_listPairs d (some .boolean) (wQi Q) 57 [some (.inr (.inr 69)), some (.inl x1), some (.inl x2)] [] M) : XW kX6_listPairs d (some .boolean) (wQi Q) 54 [some (.inr (.inr 69)), some (.inl x1), some (.inl x2)] [.inl s0, .inl s1] M := by
  exact x_icmpeq rfl h1 h2 kt kf
theorem uX6_listPairs_57 {d : Nat} {Q : Int → yM → Prop} {M : yM} {x1 : Int} {x2 : Int} (kt : (ld M 69 6) < 10 → XW kX6_listPairs d (some .boolean) (wQi Q) 68 [some (.inr (.inr 69)), some (.inl x1), some (.inl x2)] [] M) (kf : (ld M 69 6) ≥ 10 → XW kX6_listPairs d (some .boolean) (wQi Q) 66 [some (.inr (.inr 69)), some (.inl x1), some (.inl x2)] [] M) : XW kX6_listPairs d (some .boolean) (wQi Q) 57 [some (.inr (.inr 69)), some (.inl x1), some (.inl x2)] [] M := by
  refine x_aload_n rfl rfl ?_
  refine x_getI rfl sh69 rfl ?_
  refine x_bipush 10 rfl (by decide) ?_
  exact x_icmplt rfl (rng_ld _ _ _) (by decide) kt kf
theorem uX6_listPairs_66 {d : Nat} {Q : Int → yM → Prop} {M : yM} {x1 : Int} {x2 : Int} (k : Q 0 M) : XW kX6_listPairs d (some .boolean) (wQi Q) 66 [some (.inr (.inr 69)), some (.inl x1), some (.inl x2)] [] M := by
  refine x_iconst 0 rfl (by decide) ?_
  exact x_zreturn rfl (by decide) k
theorem uX6_listPairs_68 {d : Nat} {Q : Int → yM → Prop} {M : yM} {x1 : Int} {x2 : Int} (h1 : 0 ≤ (ld M 69 6) ∧ (ld M 69 6) < 10) (k : ∀ M', M' = (put M 70 (ld M 69 6) ((8 * x1) + x2)) → XW kX6_listPairs d (some .boolean) (wQi Q) 83 [some (.inr (.inr 69)), some (.inl x1), some (.inl x2)] [] M') : XW kX6_listPairs d (some .boolean) (wQi Q) 68 [some (.inr (.inr 69)), some (.inl x1), some (.inl x2)] [] M := by
  refine x_aload_n rfl rfl ?_
  refine x_getR rfl sh69 rfl ?_
  refine x_aload_n rfl rfl ?_
  refine x_getI rfl sh69 rfl ?_
  refine x_bipush 8 rfl (by decide) ?_
  refine x_iload_n rfl rfl ?_
  refine x_imul rfl ?_
  refine x_iload_n rfl rfl ?_
  refine x_iadd rfl ?_
  refine x_iastore rfl ⟨sh70, Nat.le_of_ble_eq_true rfl⟩ h1  ?_
  exact k _ rfl
theorem uX6_listPairs_83 {d : Nat} {Q : Int → yM → Prop} {M : yM} {x1 : Int} {x2 : Int} (k : ∀ M', M' = (put M 69 6 ((ld M 69 6) + 1)) → XW kX6_listPairs d (some .boolean) (wQi Q) 93 [some (.inr (.inr 69)), some (.inl x1), some (.inl x2)] [] M') : XW kX6_listPairs d (some .boolean) (wQi Q) 83 [some (.inr (.inr 69)), some (.inl x1), some (.inl x2)] [] M := by
  refine x_aload_n rfl rfl ?_
  refine x_dupa rfl ?_
  refine x_getI rfl sh69 rfl ?_
  refine x_iconst 1 rfl (by decide) ?_
  refine x_iadd rfl ?_
  refine x_putI rfl rfl sh69 rfl ?_
  exact k _ rfl
theorem uX6_listPairs_93 {d : Nat} {Q : Int → yM → Prop} {M : yM} {x1 : Int} {x2 : Int} (k : XW kX6_listPairs d (some .boolean) (wQi Q) 22 [some (.inr (.inr 69)), some (.inl x1), some (.inl (x2 + 1))] [] M) : XW kX6_listPairs d (some .boolean) (wQi Q) 93 [some (.inr (.inr 69)), some (.inl x1), some (.inl x2)] [] M := by
  refine x_iinc 1 rfl (by decide) rfl rfl ?_
  exact x_goto rfl k
theorem uX6_listPairs_99 {d : Nat} {Q : Int → yM → Prop} {M : yM} {x1 : Int} {x2 : Int} (k : XW kX6_listPairs d (some .boolean) (wQi Q) 7 [some (.inr (.inr 69)), some (.inl (x1 + 1)), some (.inl x2)] [] M) : XW kX6_listPairs d (some .boolean) (wQi Q) 99 [some (.inr (.inr 69)), some (.inl x1), some (.inl x2)] [] M := by
  refine x_iinc 1 rfl (by decide) rfl rfl ?_
  exact x_goto rfl k
theorem uX6_listPairs_105 {d : Nat} {Q : Int → yM → Prop} {M : yM} {x1 : Int} {wx2 : Option yV} (k : Q 1 M) : XW kX6_listPairs d (some .boolean) (wQi Q) 105 [some (.inr (.inr 69)), some (.inl x1), wx2] [] M := by
  refine x_iconst 1 rfl (by decide) ?_
  exact x_zreturn rfl (by decide) k
theorem eX6_leastSet {d : Nat} {Q : Int → yM → Prop} {M : yM}   (h : XW kX6_leastSet d (some .int) (wQi Q) 0 [some (.inr (.inr 69)), none, none, none] [] M) : XCi d 41 [.inr (.inr 69)] M Q :=
  XC.ofW (Mm := (yX6_leastSet, cX6_leastSet, 4, (some .int), 7, kX6_leastSet)) rfl (rcv_ok sh69) rfl rfl h
theorem uX6_leastSet_0 {d : Nat} {Q : Int → yM → Prop} {M : yM}  (kt : (ld M 69 9) = 0 → XW kX6_leastSet d (some .int) (wQi Q) 12 [some (.inr (.inr 69)), none, none, none] [] M) (kf : (ld M 69 9) ≠ 0 → XW kX6_leastSet d (some .int) (wQi Q) 7 [some (.inr (.inr 69)), none, none, none] [] M) : XW kX6_leastSet d (some .int) (wQi Q) 0 [some (.inr (.inr 69)), none, none, none] [] M := by
  refine x_aload_n rfl rfl ?_
  refine x_getI rfl sh69 rfl ?_
  exact x_ifeq rfl (rng_ld _ _ _) kt kf
theorem uX6_leastSet_7 {d : Nat} {Q : Int → yM → Prop} {M : yM}  (k : Q (ld M 69 8) M) : XW kX6_leastSet d (some .int) (wQi Q) 7 [some (.inr (.inr 69)), none, none, none] [] M := by
  refine x_aload_n rfl rfl ?_
  refine x_getI rfl sh69 rfl ?_
  exact x_ireturn rfl k
theorem uX6_leastSet_12 {d : Nat} {Q : Int → yM → Prop} {M : yM}  (k : ∀ M', M' = (put M 69 9 1) → XW kX6_leastSet d (some .int) (wQi Q) 17 [some (.inr (.inr 69)), none, none, none] [] M') : XW kX6_leastSet d (some .int) (wQi Q) 12 [some (.inr (.inr 69)), none, none, none] [] M := by
  refine x_aload_n rfl rfl ?_
  refine x_iconst 1 rfl (by decide) ?_
  refine x_putZ rfl rfl sh69 rfl (by decide) ?_
  exact k _ rfl
theorem uX6_leastSet_17 {d : Nat} {Q : Int → yM → Prop} {M : yM}  (k : ∀ M', M' = (put M 69 7 0) → XW kX6_leastSet d (some .int) (wQi Q) 22 [some (.inr (.inr 69)), none, none, none] [] M') : XW kX6_leastSet d (some .int) (wQi Q) 17 [some (.inr (.inr 69)), none, none, none] [] M := by
  refine x_aload_n rfl rfl ?_
  refine x_iconst 0 rfl (by decide) ?_
  refine x_putI rfl rfl sh69 rfl ?_
  exact k _ rfl
theorem uX6_leastSet_22 {d : Nat} {Q : Int → yM → Prop} {M : yM}  (k : XCi d 43 [.inr (.inr 69), .inl ((yshl 1 (ld M 69 6)) - 1)] M (fun v M' => XW kX6_leastSet (d + 1) (some .int) (wQi Q) 37 [some (.inr (.inr 69)), some (.inl ((yshl 1 (ld M 69 6)) - 1)), none, none] [.inl v, .inr (.inr 69)] M')) : XW kX6_leastSet (d + 1) (some .int) (wQi Q) 22 [some (.inr (.inr 69)), none, none, none] [] M := by
  refine x_iconst 1 rfl (by decide) ?_
  refine x_aload_n rfl rfl ?_
  refine x_getI rfl sh69 rfl ?_
  refine x_ishl rfl ?_
  refine x_iconst 1 rfl (by decide) ?_
  refine x_isub rfl ?_
  refine x_istore_n rfl (Nat.le_of_ble_eq_true rfl) rfl ?_
  refine x_aload_n rfl rfl ?_
  refine x_aload_n rfl rfl ?_
  refine x_iload_n rfl rfl ?_
  exact x_calli (args := [.inr (.inr 69), .inl ((yshl 1 (ld M 69 6)) - 1)]) rfl rfl rfl k
theorem uX6_leastSet_37 {d : Nat} {Q : Int → yM → Prop} {M : yM} {x1 : Int} {s0 : Int} (h1 : -2147483648 ≤ s0 ∧ s0 < 2147483648) (kt : s0 = 0 → XW kX6_leastSet d (some .int) (wQi Q) 45 [some (.inr (.inr 69)), some (.inl x1), none, none] [.inr (.inr 69)] M) (kf : s0 ≠ 0 → XW kX6_leastSet d (some .int) (wQi Q) 40 [some (.inr (.inr 69)), some (.inl x1), none, none] [.inr (.inr 69)] M) : XW kX6_leastSet d (some .int) (wQi Q) 37 [some (.inr (.inr 69)), some (.inl x1), none, none] [.inl s0, .inr (.inr 69)] M := by
  exact x_ifeq rfl h1 kt kf
theorem uX6_leastSet_40 {d : Nat} {Q : Int → yM → Prop} {M : yM} {x1 : Int} (k : XW kX6_leastSet d (some .int) (wQi Q) 46 [some (.inr (.inr 69)), some (.inl x1), none, none] [.inl (-9), .inr (.inr 69)] M) : XW kX6_leastSet d (some .int) (wQi Q) 40 [some (.inr (.inr 69)), some (.inl x1), none, none] [.inr (.inr 69)] M := by
  refine x_bipush (-9) rfl (by decide) ?_
  exact x_goto rfl k
theorem uX6_leastSet_45 {d : Nat} {Q : Int → yM → Prop} {M : yM} {x1 : Int} (k : XW kX6_leastSet d (some .int) (wQi Q) 46 [some (.inr (.inr 69)), some (.inl x1), none, none] [.inl x1, .inr (.inr 69)] M) : XW kX6_leastSet d (some .int) (wQi Q) 45 [some (.inr (.inr 69)), some (.inl x1), none, none] [.inr (.inr 69)] M := by
  refine x_iload_n rfl rfl ?_
  exact k
theorem uX6_leastSet_46 {d : Nat} {Q : Int → yM → Prop} {M : yM} {x1 : Int} {s0 : Int} (k : ∀ M', M' = (put M 69 8 s0) → XW kX6_leastSet d (some .int) (wQi Q) 49 [some (.inr (.inr 69)), some (.inl x1), none, none] [] M') : XW kX6_leastSet d (some .int) (wQi Q) 46 [some (.inr (.inr 69)), some (.inl x1), none, none] [.inl s0, .inr (.inr 69)] M := by
  refine x_putI rfl rfl sh69 rfl ?_
  exact k _ rfl
theorem uX6_leastSet_49 {d : Nat} {Q : Int → yM → Prop} {M : yM} {x1 : Int} (k : XW kX6_leastSet d (some .int) (wQi Q) 51 [some (.inr (.inr 69)), some (.inl x1), some (.inl 1), none] [] M) : XW kX6_leastSet d (some .int) (wQi Q) 49 [some (.inr (.inr 69)), some (.inl x1), none, none] [] M := by
  refine x_iconst 1 rfl (by decide) ?_
  refine x_istore_n rfl (Nat.le_of_ble_eq_true rfl) rfl ?_
  exact k
theorem uX6_leastSet_51 {d : Nat} {Q : Int → yM → Prop} {M : yM} {x1 : Int} {x2 : Int} {wx3 : Option yV} (h1 : -2147483648 ≤ x2 ∧ x2 < 2147483648) (kt : x2 ≥ (ld M 69 6) → XW kX6_leastSet d (some .int) (wQi Q) 123 [some (.inr (.inr 69)), some (.inl x1), some (.inl x2), wx3] [] M) (kf : x2 < (ld M 69 6) → XW kX6_leastSet d (some .int) (wQi Q) 59 [some (.inr (.inr 69)), some (.inl x1), some (.inl x2), wx3] [] M) : XW kX6_leastSet d (some .int) (wQi Q) 51 [some (.inr (.inr 69)), some (.inl x1), some (.inl x2), wx3] [] M := by
  refine x_iload_n rfl rfl ?_
  refine x_aload_n rfl rfl ?_
  refine x_getI rfl sh69 rfl ?_
  exact x_icmpge rfl h1 (rng_ld _ _ _) kt kf
theorem uX6_leastSet_59 {d : Nat} {Q : Int → yM → Prop} {M : yM} {x1 : Int} {x2 : Int} {wx3 : Option yV} (h1 : -2147483648 ≤ x1 ∧ x1 < 2147483648) (kt : (ld M 69 8) ≠ x1 → XW kX6_leastSet d (some .int) (wQi Q) 123 [some (.inr (.inr 69)), some (.inl x1), some (.inl x2), wx3] [] M) (kf : (ld M 69 8) = x1 → XW kX6_leastSet d (some .int) (wQi Q) 67 [some (.inr (.inr 69)), some (.inl x1), some (.inl x2), wx3] [] M) : XW kX6_leastSet d (some .int) (wQi Q) 59 [some (.inr (.inr 69)), some (.inl x1), some (.inl x2), wx3] [] M := by
  refine x_aload_n rfl rfl ?_
  refine x_getI rfl sh69 rfl ?_
  refine x_iload_n rfl rfl ?_
  exact x_icmpne rfl (rng_ld _ _ _) h1 kt kf
theorem uX6_leastSet_67 {d : Nat} {Q : Int → yM → Prop} {M : yM} {x1 : Int} {x2 : Int} {wx3 : Option yV} (k : XW kX6_leastSet d (some .int) (wQi Q) 69 [some (.inr (.inr 69)), some (.inl x1), some (.inl x2), some (.inl 1)] [] M) : XW kX6_leastSet d (some .int) (wQi Q) 67 [some (.inr (.inr 69)), some (.inl x1), some (.inl x2), wx3] [] M := by
  refine x_iconst 1 rfl (by decide) ?_
  refine x_istore_n rfl (Nat.le_of_ble_eq_true rfl) rfl ?_
  exact k
theorem uX6_leastSet_69 {d : Nat} {Q : Int → yM → Prop} {M : yM} {x1 : Int} {x2 : Int} {x3 : Int} (h1 : -2147483648 ≤ x3 ∧ x3 < 2147483648) (h2 : -2147483648 ≤ x1 ∧ x1 < 2147483648) (kt : x3 ≥ x1 → XW kX6_leastSet d (some .int) (wQi Q) 117 [some (.inr (.inr 69)), some (.inl x1), some (.inl x2), some (.inl x3)] [] M) (kf : x3 < x1 → XW kX6_leastSet d (some .int) (wQi Q) 74 [some (.inr (.inr 69)), some (.inl x1), some (.inl x2), some (.inl x3)] [] M) : XW kX6_leastSet d (some .int) (wQi Q) 69 [some (.inr (.inr 69)), some (.inl x1), some (.inl x2), some (.inl x3)] [] M := by
  refine x_iload_n rfl rfl ?_
  refine x_iload_n rfl rfl ?_
  exact x_icmpge rfl h1 h2 kt kf
theorem uX6_leastSet_74 {d : Nat} {Q : Int → yM → Prop} {M : yM} {x1 : Int} {x2 : Int} {x3 : Int} (h1 : -2147483648 ≤ x1 ∧ x1 < 2147483648) (kt : (ld M 69 8) ≠ x1 → XW kX6_leastSet d (some .int) (wQi Q) 117 [some (.inr (.inr 69)), some (.inl x1), some (.inl x2), some (.inl x3)] [] M) (kf : (ld M 69 8) = x1 → XW kX6_leastSet d (some .int) (wQi Q) 82 [some (.inr (.inr 69)), some (.inl x1), some (.inl x2), some (.inl x3)] [] M) : XW kX6_leastSet d (some .int) (wQi Q) 74 [some (.inr (.inr 69)), some (.inl x1), some (.inl x2), some (.inl x3)] [] M := by
  refine x_aload_n rfl rfl ?_
  refine x_getI rfl sh69 rfl ?_
  refine x_iload_n rfl rfl ?_
  exact x_icmpne rfl (rng_ld _ _ _) h1 kt kf
theorem uX6_leastSet_82 {d : Nat} {Q : Int → yM → Prop} {M : yM} {x1 : Int} {x2 : Int} {x3 : Int} (k : XCi d 179 [.inl x3] M (fun v M' => XW kX6_leastSet (d + 1) (some .int) (wQi Q) 86 [some (.inr (.inr 69)), some (.inl x1), some (.inl x2), some (.inl x3)] [.inl v] M')) : XW kX6_leastSet (d + 1) (some .int) (wQi Q) 82 [some (.inr (.inr 69)), some (.inl x1), some (.inl x2), some (.inl x3)] [] M := by
  refine x_iload_n rfl rfl ?_
  exact x_calli (args := [.inl x3]) rfl rfl rfl k
theorem uX6_leastSet_86 {d : Nat} {Q : Int → yM → Prop} {M : yM} {x1 : Int} {x2 : Int} {x3 : Int} {s0 : Int} (h1 : -2147483648 ≤ s0 ∧ s0 < 2147483648) (h2 : -2147483648 ≤ x2 ∧ x2 < 2147483648) (kt : s0 ≠ x2 → XW kX6_leastSet d (some .int) (wQi Q) 111 [some (.inr (.inr 69)), some (.inl x1), some (.inl x2), some (.inl x3)] [] M) (kf : s0 = x2 → XW kX6_leastSet d (some .int) (wQi Q) 90 [some (.inr (.inr 69)), some (.inl x1), some (.inl x2), some (.inl x3)] [] M) : XW kX6_leastSet d (some .int) (wQi Q) 86 [some (.inr (.inr 69)), some (.inl x1), some (.inl x2), some (.inl x3)] [.inl s0] M := by
  refine x_iload_n rfl rfl ?_
  exact x_icmpne rfl h1 h2 kt kf
theorem uX6_leastSet_90 {d : Nat} {Q : Int → yM → Prop} {M : yM} {x1 : Int} {x2 : Int} {x3 : Int} (k : XCi d 42 [.inr (.inr 69), .inl x3] M (fun v M' => XW kX6_leastSet (d + 1) (some .int) (wQi Q) 95 [some (.inr (.inr 69)), some (.inl x1), some (.inl x2), some (.inl x3)] [.inl v] M')) : XW kX6_leastSet (d + 1) (some .int) (wQi Q) 90 [some (.inr (.inr 69)), some (.inl x1), some (.inl x2), some (.inl x3)] [] M := by
  refine x_aload_n rfl rfl ?_
  refine x_iload_n rfl rfl ?_
  exact x_calli (args := [.inr (.inr 69), .inl x3]) rfl rfl rfl k
theorem uX6_leastSet_95 {d : Nat} {Q : Int → yM → Prop} {M : yM} {x1 : Int} {x2 : Int} {x3 : Int} {s0 : Int} (h1 : -2147483648 ≤ s0 ∧ s0 < 2147483648) (kt : s0 ≠ 0 → XW kX6_leastSet d (some .int) (wQi Q) 111 [some (.inr (.inr 69)), some (.inl x1), some (.inl x2), some (.inl x3)] [] M) (kf : s0 = 0 → XW kX6_leastSet d (some .int) (wQi Q) 98 [some (.inr (.inr 69)), some (.inl x1), some (.inl x2), some (.inl x3)] [] M) : XW kX6_leastSet d (some .int) (wQi Q) 95 [some (.inr (.inr 69)), some (.inl x1), some (.inl x2), some (.inl x3)] [.inl s0] M := by
  exact x_ifne rfl h1 kt kf
theorem uX6_leastSet_98 {d : Nat} {Q : Int → yM → Prop} {M : yM} {x1 : Int} {x2 : Int} {x3 : Int} (k : XCi d 43 [.inr (.inr 69), .inl x3] M (fun v M' => XW kX6_leastSet (d + 1) (some .int) (wQi Q) 103 [some (.inr (.inr 69)), some (.inl x1), some (.inl x2), some (.inl x3)] [.inl v] M')) : XW kX6_leastSet (d + 1) (some .int) (wQi Q) 98 [some (.inr (.inr 69)), some (.inl x1), some (.inl x2), some (.inl x3)] [] M := by
  refine x_aload_n rfl rfl ?_
  refine x_iload_n rfl rfl ?_
  exact x_calli (args := [.inr (.inr 69), .inl x3]) rfl rfl rfl k
theorem uX6_leastSet_103 {d : Nat} {Q : Int → yM → Prop} {M : yM} {x1 : Int} {x2 : Int} {x3 : Int} {s0 : Int} (h1 : -2147483648 ≤ s0 ∧ s0 < 2147483648) (kt : s0 ≠ 0 → XW kX6_leastSet d (some .int) (wQi Q) 111 [some (.inr (.inr 69)), some (.inl x1), some (.inl x2), some (.inl x3)] [] M) (kf : s0 = 0 → XW kX6_leastSet d (some .int) (wQi Q) 106 [some (.inr (.inr 69)), some (.inl x1), some (.inl x2), some (.inl x3)] [] M) : XW kX6_leastSet d (some .int) (wQi Q) 103 [some (.inr (.inr 69)), some (.inl x1), some (.inl x2), some (.inl x3)] [.inl s0] M := by
  exact x_ifne rfl h1 kt kf
theorem uX6_leastSet_106 {d : Nat} {Q : Int → yM → Prop} {M : yM} {x1 : Int} {x2 : Int} {x3 : Int} (k : ∀ M', M' = (put M 69 8 x3) → XW kX6_leastSet d (some .int) (wQi Q) 111 [some (.inr (.inr 69)), some (.inl x1), some (.inl x2), some (.inl x3)] [] M') : XW kX6_leastSet d (some .int) (wQi Q) 106 [some (.inr (.inr 69)), some (.inl x1), some (.inl x2), some (.inl x3)] [] M := by
  refine x_aload_n rfl rfl ?_
  refine x_iload_n rfl rfl ?_
  refine x_putI rfl rfl sh69 rfl ?_
  exact k _ rfl
theorem uX6_leastSet_111 {d : Nat} {Q : Int → yM → Prop} {M : yM} {x1 : Int} {x2 : Int} {x3 : Int} (k : XW kX6_leastSet d (some .int) (wQi Q) 69 [some (.inr (.inr 69)), some (.inl x1), some (.inl x2), some (.inl (x3 + 1))] [] M) : XW kX6_leastSet d (some .int) (wQi Q) 111 [some (.inr (.inr 69)), some (.inl x1), some (.inl x2), some (.inl x3)] [] M := by
  refine x_iinc 1 rfl (by decide) rfl rfl ?_
  exact x_goto rfl k
theorem uX6_leastSet_117 {d : Nat} {Q : Int → yM → Prop} {M : yM} {x1 : Int} {x2 : Int} {x3 : Int} (k : XW kX6_leastSet d (some .int) (wQi Q) 51 [some (.inr (.inr 69)), some (.inl x1), some (.inl (x2 + 1)), some (.inl x3)] [] M) : XW kX6_leastSet d (some .int) (wQi Q) 117 [some (.inr (.inr 69)), some (.inl x1), some (.inl x2), some (.inl x3)] [] M := by
  refine x_iinc 1 rfl (by decide) rfl rfl ?_
  exact x_goto rfl k
theorem uX6_leastSet_123 {d : Nat} {Q : Int → yM → Prop} {M : yM} {x1 : Int} {x2 : Int} {wx3 : Option yV} (k : Q (ld M 69 8) M) : XW kX6_leastSet d (some .int) (wQi Q) 123 [some (.inr (.inr 69)), some (.inl x1), some (.inl x2), wx3] [] M := by
  refine x_aload_n rfl rfl ?_
  refine x_getI rfl sh69 rfl ?_
  exact x_ireturn rfl k
theorem eX6_isGranted {d : Nat} {Q : Int → yM → Prop} {M : yM} {x1 : Int}  (h : XW kX6_isGranted d (some .boolean) (wQi Q) 0 [some (.inr (.inr 69)), some (.inl x1), none] [] M) : XCi d 42 [.inr (.inr 69), .inl x1] M Q :=
  XC.ofW (Mm := (yX6_isGranted, cX6_isGranted, 3, (some .boolean), 7, kX6_isGranted)) rfl (rcv_ok sh69) rfl rfl h
theorem uX6_isGranted_0 {d : Nat} {Q : Int → yM → Prop} {M : yM} {x1 : Int} (k : XW kX6_isGranted d (some .boolean) (wQi Q) 2 [some (.inr (.inr 69)), some (.inl x1), some (.inl 0)] [] M) : XW kX6_isGranted d (some .boolean) (wQi Q) 0 [some (.inr (.inr 69)), some (.inl x1), none] [] M := by
  refine x_iconst 0 rfl (by decide) ?_
  refine x_istore_n rfl (Nat.le_of_ble_eq_true rfl) rfl ?_
  exact k
theorem uX6_isGranted_2 {d : Nat} {Q : Int → yM → Prop} {M : yM} {x1 : Int} {x2 : Int} (h1 : -2147483648 ≤ x2 ∧ x2 < 2147483648) (kt : x2 ≥ (ld M 69 7) → XW kX6_isGranted d (some .boolean) (wQi Q) 31 [some (.inr (.inr 69)), some (.inl x1), some (.inl x2)] [] M) (kf : x2 < (ld M 69 7) → XW kX6_isGranted d (some .boolean) (wQi Q) 10 [some (.inr (.inr 69)), some (.inl x1), some (.inl x2)] [] M) : XW kX6_isGranted d (some .boolean) (wQi Q) 2 [some (.inr (.inr 69)), some (.inl x1), some (.inl x2)] [] M := by
  refine x_iload_n rfl rfl ?_
  refine x_aload_n rfl rfl ?_
  refine x_getI rfl sh69 rfl ?_
  exact x_icmpge rfl h1 (rng_ld _ _ _) kt kf
theorem uX6_isGranted_10 {d : Nat} {Q : Int → yM → Prop} {M : yM} {x1 : Int} {x2 : Int} (h1 : 0 ≤ x2 ∧ x2 < 1024) (kt : (yand x1 (yxor (ld M 72 x2) (-1))) ≠ 0 → XW kX6_isGranted d (some .boolean) (wQi Q) 25 [some (.inr (.inr 69)), some (.inl x1), some (.inl x2)] [] M) (kf : (yand x1 (yxor (ld M 72 x2) (-1))) = 0 → XW kX6_isGranted d (some .boolean) (wQi Q) 23 [some (.inr (.inr 69)), some (.inl x1), some (.inl x2)] [] M) : XW kX6_isGranted d (some .boolean) (wQi Q) 10 [some (.inr (.inr 69)), some (.inl x1), some (.inl x2)] [] M := by
  refine x_iload_n rfl rfl ?_
  refine x_aload_n rfl rfl ?_
  refine x_getR rfl sh69 rfl ?_
  refine x_iload_n rfl rfl ?_
  refine x_iaload rfl ⟨sh72, Nat.le_of_ble_eq_true rfl⟩ h1 ?_
  refine x_iconst (-1) rfl (by decide) ?_
  refine x_ixor rfl ?_
  refine x_iand rfl ?_
  exact x_ifne rfl (rng_yand _ _) kt kf
theorem uX6_isGranted_23 {d : Nat} {Q : Int → yM → Prop} {M : yM} {x1 : Int} {x2 : Int} (k : Q 1 M) : XW kX6_isGranted d (some .boolean) (wQi Q) 23 [some (.inr (.inr 69)), some (.inl x1), some (.inl x2)] [] M := by
  refine x_iconst 1 rfl (by decide) ?_
  exact x_zreturn rfl (by decide) k
theorem uX6_isGranted_25 {d : Nat} {Q : Int → yM → Prop} {M : yM} {x1 : Int} {x2 : Int} (k : XW kX6_isGranted d (some .boolean) (wQi Q) 2 [some (.inr (.inr 69)), some (.inl x1), some (.inl (x2 + 1))] [] M) : XW kX6_isGranted d (some .boolean) (wQi Q) 25 [some (.inr (.inr 69)), some (.inl x1), some (.inl x2)] [] M := by
  refine x_iinc 1 rfl (by decide) rfl rfl ?_
  exact x_goto rfl k
theorem uX6_isGranted_31 {d : Nat} {Q : Int → yM → Prop} {M : yM} {x1 : Int} {x2 : Int} (k : Q 0 M) : XW kX6_isGranted d (some .boolean) (wQi Q) 31 [some (.inr (.inr 69)), some (.inl x1), some (.inl x2)] [] M := by
  refine x_iconst 0 rfl (by decide) ?_
  exact x_zreturn rfl (by decide) k
theorem eX6_canBe {d : Nat} {Q : Int → yM → Prop} {M : yM} {x1 : Int}  (h : XW kX6_canBe d (some .boolean) (wQi Q) 0 [some (.inr (.inr 69)), some (.inl x1), none, none, none, none] [] M) : XCi d 43 [.inr (.inr 69), .inl x1] M Q :=
  XC.ofW (Mm := (yX6_canBe, cX6_canBe, 6, (some .boolean), 7, kX6_canBe)) rfl (rcv_ok sh69) rfl rfl h
theorem uX6_canBe_0 {d : Nat} {Q : Int → yM → Prop} {M : yM} {x1 : Int} (k : XCi d 60 [.inr (.inr 1)] M (fun v M' => XW kX6_canBe (d + 1) (some .boolean) (wQi Q) 7 [some (.inr (.inr 69)), some (.inl x1), none, none, none, none] [.inl v] M')) : XW kX6_canBe (d + 1) (some .boolean) (wQi Q) 0 [some (.inr (.inr 69)), some (.inl x1), none, none, none, none] [] M := by
  refine x_aload_n rfl rfl ?_
  refine x_getR rfl sh69 rfl ?_
  exact x_calli (args := [.inr (.inr 1)]) rfl rfl rfl k
theorem uX6_canBe_7 {d : Nat} {Q : Int → yM → Prop} {M : yM} {x1 : Int} {s0 : Int} (k : XW kX6_canBe d (some .boolean) (wQi Q) 10 [some (.inr (.inr 69)), some (.inl x1), some (.inl s0), some (.inl 0), none, none] [] M) : XW kX6_canBe d (some .boolean) (wQi Q) 7 [some (.inr (.inr 69)), some (.inl x1), none, none, none, none] [.inl s0] M := by
  refine x_istore_n rfl (Nat.le_of_ble_eq_true rfl) rfl ?_
  refine x_iconst 0 rfl (by decide) ?_
  refine x_istore_n rfl (Nat.le_of_ble_eq_true rfl) rfl ?_
  exact k
theorem uX6_canBe_10 {d : Nat} {Q : Int → yM → Prop} {M : yM} {x1 : Int} {x2 : Int} {x3 : Int} (h1 : -2147483648 ≤ x3 ∧ x3 < 2147483648) (kt : x3 ≥ 64 → XW kX6_canBe d (some .boolean) (wQi Q) 43 [some (.inr (.inr 69)), some (.inl x1), some (.inl x2), some (.inl x3), none, none] [] M) (kf : x3 < 64 → XW kX6_canBe d (some .boolean) (wQi Q) 16 [some (.inr (.inr 69)), some (.inl x1), some (.inl x2), some (.inl x3), none, none] [] M) : XW kX6_canBe d (some .boolean) (wQi Q) 10 [some (.inr (.inr 69)), some (.inl x1), some (.inl x2), some (.inl x3), none, none] [] M := by
  refine x_iload_n rfl rfl ?_
  refine x_bipush 64 rfl (by decide) ?_
  exact x_icmpge rfl h1 (by decide) kt kf
theorem uX6_canBe_16 {d : Nat} {Q : Int → yM → Prop} {M : yM} {x1 : Int} {x2 : Int} {x3 : Int} (kt : (yshr x3 3) ≠ (yand x3 7) → XW kX6_canBe d (some .boolean) (wQi Q) 35 [some (.inr (.inr 69)), some (.inl x1), some (.inl x2), some (.inl x3), none, none] [.inl x3, .inr (.inr 71)] M) (kf : (yshr x3 3) = (yand x3 7) → XW kX6_canBe d (some .boolean) (wQi Q) 31 [some (.inr (.inr 69)), some (.inl x1), some (.inl x2), some (.inl x3), none, none] [.inl x3, .inr (.inr 71)] M) : XW kX6_canBe d (some .boolean) (wQi Q) 16 [some (.inr (.inr 69)), some (.inl x1), some (.inl x2), some (.inl x3), none, none] [] M := by
  refine x_aload_n rfl rfl ?_
  refine x_getR rfl sh69 rfl ?_
  refine x_iload_n rfl rfl ?_
  refine x_iload_n rfl rfl ?_
  refine x_iconst 3 rfl (by decide) ?_
  refine x_ishr rfl ?_
  refine x_iload_n rfl rfl ?_
  refine x_bipush 7 rfl (by decide) ?_
  refine x_iand rfl ?_
  exact x_icmpne rfl (rng_yshr _ _) (rng_yand _ _) kt kf
theorem uX6_canBe_31 {d : Nat} {Q : Int → yM → Prop} {M : yM} {x1 : Int} {x2 : Int} {x3 : Int} {s0 : Int} (k : XW kX6_canBe d (some .boolean) (wQi Q) 36 [some (.inr (.inr 69)), some (.inl x1), some (.inl x2), some (.inl x3), none, none] [.inl 1, .inl s0, .inr (.inr 71)] M) : XW kX6_canBe d (some .boolean) (wQi Q) 31 [some (.inr (.inr 69)), some (.inl x1), some (.inl x2), some (.inl x3), none, none] [.inl s0, .inr (.inr 71)] M := by
  refine x_iconst 1 rfl (by decide) ?_
  exact x_goto rfl k
theorem uX6_canBe_35 {d : Nat} {Q : Int → yM → Prop} {M : yM} {x1 : Int} {x2 : Int} {x3 : Int} {s0 : Int} (k : XW kX6_canBe d (some .boolean) (wQi Q) 36 [some (.inr (.inr 69)), some (.inl x1), some (.inl x2), some (.inl x3), none, none] [.inl x2, .inl s0, .inr (.inr 71)] M) : XW kX6_canBe d (some .boolean) (wQi Q) 35 [some (.inr (.inr 69)), some (.inl x1), some (.inl x2), some (.inl x3), none, none] [.inl s0, .inr (.inr 71)] M := by
  refine x_iload_n rfl rfl ?_
  exact k
theorem uX6_canBe_36 {d : Nat} {Q : Int → yM → Prop} {M : yM} {x1 : Int} {x2 : Int} {x3 : Int} {s0 : Int} {s1 : Int} (h1 : 0 ≤ s1 ∧ s1 < 64) (k : ∀ M', M' = (put M 71 s1 s0) → XW kX6_canBe d (some .boolean) (wQi Q) 37 [some (.inr (.inr 69)), some (.inl x1), some (.inl x2), some (.inl x3), none, none] [] M') : XW kX6_canBe d (some .boolean) (wQi Q) 36 [some (.inr (.inr 69)), some (.inl x1), some (.inl x2), some (.inl x3), none, none] [.inl s0, .inl s1, .inr (.inr 71)] M := by
  refine x_iastore rfl ⟨sh71, Nat.le_of_ble_eq_true rfl⟩ h1  ?_
  exact k _ rfl
theorem uX6_canBe_37 {d : Nat} {Q : Int → yM → Prop} {M : yM} {x1 : Int} {x2 : Int} {x3 : Int} (k : XW kX6_canBe d (some .boolean) (wQi Q) 10 [some (.inr (.inr 69)), some (.inl x1), some (.inl x2), some (.inl (x3 + 1)), none, none] [] M) : XW kX6_canBe d (some .boolean) (wQi Q) 37 [some (.inr (.inr 69)), some (.inl x1), some (.inl x2), some (.inl x3), none, none] [] M := by
  refine x_iinc 1 rfl (by decide) rfl rfl ?_
  exact x_goto rfl k
theorem uX6_canBe_43 {d : Nat} {Q : Int → yM → Prop} {M : yM} {x1 : Int} {x2 : Int} {x3 : Int} (k : XW kX6_canBe d (some .boolean) (wQi Q) 45 [some (.inr (.inr 69)), some (.inl x1), some (.inl x2), some (.inl 0), none, none] [] M) : XW kX6_canBe d (some .boolean) (wQi Q) 43 [some (.inr (.inr 69)), some (.inl x1), some (.inl x2), some (.inl x3), none, none] [] M := by
  refine x_iconst 0 rfl (by decide) ?_
  refine x_istore_n rfl (Nat.le_of_ble_eq_true rfl) rfl ?_
  exact k
theorem uX6_canBe_45 {d : Nat} {Q : Int → yM → Prop} {M : yM} {x1 : Int} {x2 : Int} {x3 : Int} {wx4 : Option yV} {wx5 : Option yV} (h1 : -2147483648 ≤ x3 ∧ x3 < 2147483648) (kt : x3 ≥ (ld M 69 6) → XW kX6_canBe d (some .boolean) (wQi Q) 125 [some (.inr (.inr 69)), some (.inl x1), some (.inl x2), some (.inl x3), wx4, wx5] [] M) (kf : x3 < (ld M 69 6) → XW kX6_canBe d (some .boolean) (wQi Q) 53 [some (.inr (.inr 69)), some (.inl x1), some (.inl x2), some (.inl x3), wx4, wx5] [] M) : XW kX6_canBe d (some .boolean) (wQi Q) 45 [some (.inr (.inr 69)), some (.inl x1), some (.inl x2), some (.inl x3), wx4, wx5] [] M := by
  refine x_iload_n rfl rfl ?_
  refine x_aload_n rfl rfl ?_
  refine x_getI rfl sh69 rfl ?_
  exact x_icmpge rfl h1 (rng_ld _ _ _) kt kf
theorem uX6_canBe_53 {d : Nat} {Q : Int → yM → Prop} {M : yM} {x1 : Int} {x2 : Int} {x3 : Int} {wx4 : Option yV} {wx5 : Option yV} (kt : (yand (yshr x1 x3) 1) ≠ 1 → XW kX6_canBe d (some .boolean) (wQi Q) 119 [some (.inr (.inr 69)), some (.inl x1), some (.inl x2), some (.inl x3), wx4, wx5] [] M) (kf : (yand (yshr x1 x3) 1) = 1 → XW kX6_canBe d (some .boolean) (wQi Q) 62 [some (.inr (.inr 69)), some (.inl x1), some (.inl x2), some (.inl x3), wx4, wx5] [] M) : XW kX6_canBe d (some .boolean) (wQi Q) 53 [some (.inr (.inr 69)), some (.inl x1), some (.inl x2), some (.inl x3), wx4, wx5] [] M := by
  refine x_iload_n rfl rfl ?_
  refine x_iload_n rfl rfl ?_
  refine x_ishr rfl ?_
  refine x_iconst 1 rfl (by decide) ?_
  refine x_iand rfl ?_
  refine x_iconst 1 rfl (by decide) ?_
  exact x_icmpne rfl (rng_yand _ _) (by decide) kt kf
theorem uX6_canBe_62 {d : Nat} {Q : Int → yM → Prop} {M : yM} {x1 : Int} {x2 : Int} {x3 : Int} {wx4 : Option yV} {wx5 : Option yV} (h1 : 0 ≤ x3 ∧ x3 < 10) (h2 : 0 ≤ (ld M 70 x3) ∧ (ld M 70 x3) < 64) (h3 : 0 ≤ (ld M 70 x3) ∧ (ld M 70 x3) < 64) (k : ∀ M', M' = (put M 71 (ld M 70 x3) (ld M 20 (ld M 70 x3))) → XW kX6_canBe d (some .boolean) (wQi Q) 102 [some (.inr (.inr 69)), some (.inl x1), some (.inl x2), some (.inl x3), some (.inl (ld M 70 x3)), some (.inl ((8 * (yand (ld M 70 x3) 7)) + (yshr (ld M 70 x3) 3)))] [] M') : XW kX6_canBe d (some .boolean) (wQi Q) 62 [some (.inr (.inr 69)), some (.inl x1), some (.inl x2), some (.inl x3), wx4, wx5] [] M := by
  refine x_aload_n rfl rfl ?_
  refine x_getR rfl sh69 rfl ?_
  refine x_iload_n rfl rfl ?_
  refine x_iaload rfl ⟨sh70, Nat.le_of_ble_eq_true rfl⟩ h1 ?_
  refine x_istore rfl (Nat.le_of_ble_eq_true rfl) rfl ?_
  refine x_bipush 8 rfl (by decide) ?_
  refine x_iload rfl rfl ?_
  refine x_bipush 7 rfl (by decide) ?_
  refine x_iand rfl ?_
  refine x_imul rfl ?_
  refine x_iload rfl rfl ?_
  refine x_iconst 3 rfl (by decide) ?_
  refine x_ishr rfl ?_
  refine x_iadd rfl ?_
  refine x_istore rfl (Nat.le_of_ble_eq_true rfl) rfl ?_
  refine x_aload_n rfl rfl ?_
  refine x_getR rfl sh69 rfl ?_
  refine x_iload rfl rfl ?_
  refine x_aload_n rfl rfl ?_
  refine x_getR rfl sh69 rfl ?_
  refine x_getR rfl sh19 rfl ?_
  refine x_iload rfl rfl ?_
  refine x_iaload rfl ⟨sh20, Nat.le_of_ble_eq_true rfl⟩ h2 ?_
  refine x_iastore rfl ⟨sh71, Nat.le_of_ble_eq_true rfl⟩ h3  ?_
  exact k _ rfl
theorem uX6_canBe_102 {d : Nat} {Q : Int → yM → Prop} {M : yM} {x1 : Int} {x2 : Int} {x3 : Int} {x4 : Int} {x5 : Int} (h1 : 0 ≤ x5 ∧ x5 < 64) (h2 : 0 ≤ x5 ∧ x5 < 64) (k : ∀ M', M' = (put M 71 x5 (ld M 20 x5)) → XW kX6_canBe d (some .boolean) (wQi Q) 119 [some (.inr (.inr 69)), some (.inl x1), some (.inl x2), some (.inl x3), some (.inl x4), some (.inl x5)] [] M') : XW kX6_canBe d (some .boolean) (wQi Q) 102 [some (.inr (.inr 69)), some (.inl x1), some (.inl x2), some (.inl x3), some (.inl x4), some (.inl x5)] [] M := by
  refine x_aload_n rfl rfl ?_
  refine x_getR rfl sh69 rfl ?_
  refine x_iload rfl rfl ?_
  refine x_aload_n rfl rfl ?_
  refine x_getR rfl sh69 rfl ?_
  refine x_getR rfl sh19 rfl ?_
  refine x_iload rfl rfl ?_
  refine x_iaload rfl ⟨sh20, Nat.le_of_ble_eq_true rfl⟩ h1 ?_
  refine x_iastore rfl ⟨sh71, Nat.le_of_ble_eq_true rfl⟩ h2  ?_
  exact k _ rfl
theorem uX6_canBe_119 {d : Nat} {Q : Int → yM → Prop} {M : yM} {x1 : Int} {x2 : Int} {x3 : Int} {wx4 : Option yV} {wx5 : Option yV} (k : XW kX6_canBe d (some .boolean) (wQi Q) 45 [some (.inr (.inr 69)), some (.inl x1), some (.inl x2), some (.inl (x3 + 1)), wx4, wx5] [] M) : XW kX6_canBe d (some .boolean) (wQi Q) 119 [some (.inr (.inr 69)), some (.inl x1), some (.inl x2), some (.inl x3), wx4, wx5] [] M := by
  refine x_iinc 1 rfl (by decide) rfl rfl ?_
  exact x_goto rfl k
theorem uX6_canBe_125 {d : Nat} {Q : Int → yM → Prop} {M : yM} {x1 : Int} {x2 : Int} {x3 : Int} {wx4 : Option yV} {wx5 : Option yV} (k : XCi d 46 [.inr (.inr 22), .inr (.inr 71), .inl (ld M 19 0), .inl 1, .inl 0] M (fun v M' => XW kX6_canBe (d + 1) (some .boolean) (wQi Q) 145 [some (.inr (.inr 69)), some (.inl x1), some (.inl x2), some (.inl x3), wx4, wx5] [.inl v] M')) : XW kX6_canBe (d + 1) (some .boolean) (wQi Q) 125 [some (.inr (.inr 69)), some (.inl x1), some (.inl x2), some (.inl x3), wx4, wx5] [] M := by
  refine x_aload_n rfl rfl ?_
  refine x_getR rfl sh69 rfl ?_
  refine x_aload_n rfl rfl ?_
  refine x_getR rfl sh69 rfl ?_
  refine x_aload_n rfl rfl ?_
  refine x_getR rfl sh69 rfl ?_
  refine x_getI rfl sh19 rfl ?_
  refine x_iconst 1 rfl (by decide) ?_
  refine x_iconst 0 rfl (by decide) ?_
  exact x_calli (args := [.inr (.inr 22), .inr (.inr 71), .inl (ld M 19 0), .inl 1, .inl 0]) rfl rfl rfl k
theorem uX6_canBe_145 {d : Nat} {Q : Int → yM → Prop} {M : yM} {x1 : Int} {x2 : Int} {x3 : Int} {wx4 : Option yV} {wx5 : Option yV} {s0 : Int} (h1 : -2147483648 ≤ s0 ∧ s0 < 2147483648) (kt : s0 ≤ 0 → XW kX6_canBe d (some .boolean) (wQi Q) 152 [some (.inr (.inr 69)), some (.inl x1), some (.inl x2), some (.inl x3), wx4, wx5] [] M) (kf : s0 > 0 → XW kX6_canBe d (some .boolean) (wQi Q) 148 [some (.inr (.inr 69)), some (.inl x1), some (.inl x2), some (.inl x3), wx4, wx5] [] M) : XW kX6_canBe d (some .boolean) (wQi Q) 145 [some (.inr (.inr 69)), some (.inl x1), some (.inl x2), some (.inl x3), wx4, wx5] [.inl s0] M := by
  exact x_ifle rfl h1 kt kf
theorem uX6_canBe_148 {d : Nat} {Q : Int → yM → Prop} {M : yM} {x1 : Int} {x2 : Int} {x3 : Int} {wx4 : Option yV} {wx5 : Option yV} (k : XW kX6_canBe d (some .boolean) (wQi Q) 153 [some (.inr (.inr 69)), some (.inl x1), some (.inl x2), some (.inl x3), wx4, wx5] [.inl 1] M) : XW kX6_canBe d (some .boolean) (wQi Q) 148 [some (.inr (.inr 69)), some (.inl x1), some (.inl x2), some (.inl x3), wx4, wx5] [] M := by
  refine x_iconst 1 rfl (by decide) ?_
  exact x_goto rfl k
theorem uX6_canBe_152 {d : Nat} {Q : Int → yM → Prop} {M : yM} {x1 : Int} {x2 : Int} {x3 : Int} {wx4 : Option yV} {wx5 : Option yV} (k : XW kX6_canBe d (some .boolean) (wQi Q) 153 [some (.inr (.inr 69)), some (.inl x1), some (.inl x2), some (.inl x3), wx4, wx5] [.inl 0] M) : XW kX6_canBe d (some .boolean) (wQi Q) 152 [some (.inr (.inr 69)), some (.inl x1), some (.inl x2), some (.inl x3), wx4, wx5] [] M := by
  refine x_iconst 0 rfl (by decide) ?_
  exact k
theorem uX6_canBe_153 {d : Nat} {Q : Int → yM → Prop} {M : yM} {x1 : Int} {x2 : Int} {x3 : Int} {wx4 : Option yV} {wx5 : Option yV} {s0 : Int} (h1 : -2147483648 ≤ s0 ∧ s0 < 2147483648) (kt : s0 = 0 → XW kX6_canBe d (some .boolean) (wQi Q) 200 [some (.inr (.inr 69)), some (.inl x1), some (.inl x2), some (.inl s0), wx4, wx5] [] M) (kf : s0 ≠ 0 → XW kX6_canBe d (some .boolean) (wQi Q) 158 [some (.inr (.inr 69)), some (.inl x1), some (.inl x2), some (.inl s0), wx4, wx5] [] M) : XW kX6_canBe d (some .boolean) (wQi Q) 153 [some (.inr (.inr 69)), some (.inl x1), some (.inl x2), some (.inl x3), wx4, wx5] [.inl s0] M := by
  refine x_istore_n rfl (Nat.le_of_ble_eq_true rfl) rfl ?_
  refine x_iload_n rfl rfl ?_
  exact x_ifeq rfl h1 kt kf
theorem uX6_canBe_158 {d : Nat} {Q : Int → yM → Prop} {M : yM} {x1 : Int} {x2 : Int} {x3 : Int} {wx4 : Option yV} {wx5 : Option yV} (kt : (ld M 69 7) ≥ 1024 → XW kX6_canBe d (some .boolean) (wQi Q) 200 [some (.inr (.inr 69)), some (.inl x1), some (.inl x2), some (.inl x3), wx4, wx5] [] M) (kf : (ld M 69 7) < 1024 → XW kX6_canBe d (some .boolean) (wQi Q) 170 [some (.inr (.inr 69)), some (.inl x1), some (.inl x2), some (.inl x3), wx4, wx5] [] M) : XW kX6_canBe d (some .boolean) (wQi Q) 158 [some (.inr (.inr 69)), some (.inl x1), some (.inl x2), some (.inl x3), wx4, wx5] [] M := by
  refine x_aload_n rfl rfl ?_
  refine x_getI rfl sh69 rfl ?_
  refine x_aload_n rfl rfl ?_
  refine x_getR rfl sh69 rfl ?_
  refine x_alen rfl ⟨sh72, Nat.le_of_ble_eq_true rfl⟩ (by decide) ?_
  exact x_icmpge rfl (rng_ld _ _ _) (by decide) kt kf
theorem uX6_canBe_170 {d : Nat} {Q : Int → yM → Prop} {M : yM} {x1 : Int} {x2 : Int} {x3 : Int} {wx4 : Option yV} {wx5 : Option yV} (k : XCi d 44 [.inr (.inr 69), .inr (.inr 54)] M (fun v M' => XW kX6_canBe (d + 1) (some .boolean) (wQi Q) 189 [some (.inr (.inr 69)), some (.inl x1), some (.inl x2), some (.inl x3), wx4, wx5] [.inl v, .inl (ld M 69 7), .inr (.inr 72)] M')) : XW kX6_canBe (d + 1) (some .boolean) (wQi Q) 170 [some (.inr (.inr 69)), some (.inl x1), some (.inl x2), some (.inl x3), wx4, wx5] [] M := by
  refine x_aload_n rfl rfl ?_
  refine x_getR rfl sh69 rfl ?_
  refine x_aload_n rfl rfl ?_
  refine x_getI rfl sh69 rfl ?_
  refine x_aload_n rfl rfl ?_
  refine x_aload_n rfl rfl ?_
  refine x_getR rfl sh69 rfl ?_
  refine x_getR rfl sh22 rfl ?_
  exact x_calli (args := [.inr (.inr 69), .inr (.inr 54)]) rfl rfl rfl k
theorem uX6_canBe_189 {d : Nat} {Q : Int → yM → Prop} {M : yM} {x1 : Int} {x2 : Int} {x3 : Int} {wx4 : Option yV} {wx5 : Option yV} {s0 : Int} {s1 : Int} (h1 : 0 ≤ s1 ∧ s1 < 1024) (k : ∀ M', M' = (put M 72 s1 s0) → XW kX6_canBe d (some .boolean) (wQi Q) 190 [some (.inr (.inr 69)), some (.inl x1), some (.inl x2), some (.inl x3), wx4, wx5] [] M') : XW kX6_canBe d (some .boolean) (wQi Q) 189 [some (.inr (.inr 69)), some (.inl x1), some (.inl x2), some (.inl x3), wx4, wx5] [.inl s0, .inl s1, .inr (.inr 72)] M := by
  refine x_iastore rfl ⟨sh72, Nat.le_of_ble_eq_true rfl⟩ h1  ?_
  exact k _ rfl
theorem uX6_canBe_190 {d : Nat} {Q : Int → yM → Prop} {M : yM} {x1 : Int} {x2 : Int} {x3 : Int} {wx4 : Option yV} {wx5 : Option yV} (k : ∀ M', M' = (put M 69 7 ((ld M 69 7) + 1)) → XW kX6_canBe d (some .boolean) (wQi Q) 200 [some (.inr (.inr 69)), some (.inl x1), some (.inl x2), some (.inl x3), wx4, wx5] [] M') : XW kX6_canBe d (some .boolean) (wQi Q) 190 [some (.inr (.inr 69)), some (.inl x1), some (.inl x2), some (.inl x3), wx4, wx5] [] M := by
  refine x_aload_n rfl rfl ?_
  refine x_dupa rfl ?_
  refine x_getI rfl sh69 rfl ?_
  refine x_iconst 1 rfl (by decide) ?_
  refine x_iadd rfl ?_
  refine x_putI rfl rfl sh69 rfl ?_
  exact k _ rfl
theorem uX6_canBe_200 {d : Nat} {Q : Int → yM → Prop} {M : yM} {x1 : Int} {x2 : Int} {x3 : Int} {wx4 : Option yV} {wx5 : Option yV} (h1 : x3 = 0 ∨ x3 = 1) (k : Q x3 M) : XW kX6_canBe d (some .boolean) (wQi Q) 200 [some (.inr (.inr 69)), some (.inl x1), some (.inl x2), some (.inl x3), wx4, wx5] [] M := by
  refine x_iload_n rfl rfl ?_
  exact x_zreturn rfl h1 k
theorem eX6_pairsAsTold {d : Nat} {Q : Int → yM → Prop} {M : yM} {x1 : Nat}  (h : XW kX6_pairsAsTold d (some .int) (wQi Q) 0 [some (.inr (.inr 69)), some (.inr (.inr x1)), none, none] [] M) : XCi d 44 [.inr (.inr 69), .inr (.inr x1)] M Q :=
  XC.ofW (Mm := (yX6_pairsAsTold, cX6_pairsAsTold, 4, (some .int), 7, kX6_pairsAsTold)) rfl (rcv_ok sh69) rfl rfl h
theorem uX6_pairsAsTold_0 {d : Nat} {Q : Int → yM → Prop} {M : yM} {x1 : Nat} (k : XW kX6_pairsAsTold d (some .int) (wQi Q) 4 [some (.inr (.inr 69)), some (.inr (.inr x1)), some (.inl 0), some (.inl 0)] [] M) : XW kX6_pairsAsTold d (some .int) (wQi Q) 0 [some (.inr (.inr 69)), some (.inr (.inr x1)), none, none] [] M := by
  refine x_iconst 0 rfl (by decide) ?_
  refine x_istore_n rfl (Nat.le_of_ble_eq_true rfl) rfl ?_
  refine x_iconst 0 rfl (by decide) ?_
  refine x_istore_n rfl (Nat.le_of_ble_eq_true rfl) rfl ?_
  exact k
theorem uX6_pairsAsTold_4 {d : Nat} {Q : Int → yM → Prop} {M : yM} {x1 : Nat} {x2 : Int} {x3 : Int} (h1 : -2147483648 ≤ x3 ∧ x3 < 2147483648) (kt : x3 ≥ (ld M 69 6) → XW kX6_pairsAsTold d (some .int) (wQi Q) 50 [some (.inr (.inr 69)), some (.inr (.inr x1)), some (.inl x2), some (.inl x3)] [] M) (kf : x3 < (ld M 69 6) → XW kX6_pairsAsTold d (some .int) (wQi Q) 12 [some (.inr (.inr 69)), some (.inr (.inr x1)), some (.inl x2), some (.inl x3)] [] M) : XW kX6_pairsAsTold d (some .int) (wQi Q) 4 [some (.inr (.inr 69)), some (.inr (.inr x1)), some (.inl x2), some (.inl x3)] [] M := by
  refine x_iload_n rfl rfl ?_
  refine x_aload_n rfl rfl ?_
  refine x_getI rfl sh69 rfl ?_
  exact x_icmpge rfl h1 (rng_ld _ _ _) kt kf
theorem uX6_pairsAsTold_12 {d : Nat} {Q : Int → yM → Prop} {M : yM} {x1 : Nat} {x2 : Int} {x3 : Int} (h1 : 0 ≤ x3 ∧ x3 < 10) (h2 : arrSh x1 64) (h3 : 0 ≤ (ld M 70 x3) ∧ (ld M 70 x3) < 64) (h4 : 0 ≤ x3 ∧ x3 < 10) (h5 : 0 ≤ (ld M 70 x3) ∧ (ld M 70 x3) < 64) (kt : (yand (ld M x1 (ld M 70 x3)) (ld M 20 (ld M 70 x3))) = 0 → XW kX6_pairsAsTold d (some .int) (wQi Q) 44 [some (.inr (.inr 69)), some (.inr (.inr x1)), some (.inl x2), some (.inl x3)] [] M) (kf : (yand (ld M x1 (ld M 70 x3)) (ld M 20 (ld M 70 x3))) ≠ 0 → XW kX6_pairsAsTold d (some .int) (wQi Q) 38 [some (.inr (.inr 69)), some (.inr (.inr x1)), some (.inl x2), some (.inl x3)] [] M) : XW kX6_pairsAsTold d (some .int) (wQi Q) 12 [some (.inr (.inr 69)), some (.inr (.inr x1)), some (.inl x2), some (.inl x3)] [] M := by
  refine x_aload_n rfl rfl ?_
  refine x_aload_n rfl rfl ?_
  refine x_getR rfl sh69 rfl ?_
  refine x_iload_n rfl rfl ?_
  refine x_iaload rfl ⟨sh70, Nat.le_of_ble_eq_true rfl⟩ h1 ?_
  refine x_iaload rfl h2 h3 ?_
  refine x_aload_n rfl rfl ?_
  refine x_getR rfl sh69 rfl ?_
  refine x_getR rfl sh19 rfl ?_
  refine x_aload_n rfl rfl ?_
  refine x_getR rfl sh69 rfl ?_
  refine x_iload_n rfl rfl ?_
  refine x_iaload rfl ⟨sh70, Nat.le_of_ble_eq_true rfl⟩ h4 ?_
  refine x_iaload rfl ⟨sh20, Nat.le_of_ble_eq_true rfl⟩ h5 ?_
  refine x_iand rfl ?_
  exact x_ifeq rfl (rng_yand _ _) kt kf
theorem uX6_pairsAsTold_38 {d : Nat} {Q : Int → yM → Prop} {M : yM} {x1 : Nat} {x2 : Int} {x3 : Int} (k : XW kX6_pairsAsTold d (some .int) (wQi Q) 44 [some (.inr (.inr 69)), some (.inr (.inr x1)), some (.inl (yor x2 (yshl 1 x3))), some (.inl x3)] [] M) : XW kX6_pairsAsTold d (some .int) (wQi Q) 38 [some (.inr (.inr 69)), some (.inr (.inr x1)), some (.inl x2), some (.inl x3)] [] M := by
  refine x_iload_n rfl rfl ?_
  refine x_iconst 1 rfl (by decide) ?_
  refine x_iload_n rfl rfl ?_
  refine x_ishl rfl ?_
  refine x_ior rfl ?_
  refine x_istore_n rfl (Nat.le_of_ble_eq_true rfl) rfl ?_
  exact k
theorem uX6_pairsAsTold_44 {d : Nat} {Q : Int → yM → Prop} {M : yM} {x1 : Nat} {x2 : Int} {x3 : Int} (k : XW kX6_pairsAsTold d (some .int) (wQi Q) 4 [some (.inr (.inr 69)), some (.inr (.inr x1)), some (.inl x2), some (.inl (x3 + 1))] [] M) : XW kX6_pairsAsTold d (some .int) (wQi Q) 44 [some (.inr (.inr 69)), some (.inr (.inr x1)), some (.inl x2), some (.inl x3)] [] M := by
  refine x_iinc 1 rfl (by decide) rfl rfl ?_
  exact x_goto rfl k
theorem uX6_pairsAsTold_50 {d : Nat} {Q : Int → yM → Prop} {M : yM} {x1 : Nat} {x2 : Int} {x3 : Int} (k : Q x2 M) : XW kX6_pairsAsTold d (some .int) (wQi Q) 50 [some (.inr (.inr 69)), some (.inr (.inr x1)), some (.inl x2), some (.inl x3)] [] M := by
  refine x_iload_n rfl rfl ?_
  exact x_ireturn rfl k
theorem eX7_run {d : Nat} {Q : Int → yM → Prop} {M : yM} {x1 : Nat} {x2 : Int} {x3 : Int} {x4 : Int}  (h : XW kX7_run d (some .int) (wQi Q) 0 [some (.inr (.inr 22)), some (.inr (.inr x1)), some (.inl x2), some (.inl x3), some (.inl x4)] [] M) : XCi d 46 [.inr (.inr 22), .inr (.inr x1), .inl x2, .inl x3, .inl x4] M Q :=
  XC.ofW (Mm := (yX7_run, cX7_run, 5, (some .int), 8, kX7_run)) rfl (rcv_ok sh22) rfl rfl h
theorem uX7_run_0 {d : Nat} {Q : Int → yM → Prop} {M : yM} {x1 : Nat} {x2 : Int} {x3 : Int} {x4 : Int} (k : ∀ M', M' = (put M 22 6 x2) → XW kX7_run d (some .int) (wQi Q) 5 [some (.inr (.inr 22)), some (.inr (.inr x1)), some (.inl x2), some (.inl x3), some (.inl x4)] [] M') : XW kX7_run d (some .int) (wQi Q) 0 [some (.inr (.inr 22)), some (.inr (.inr x1)), some (.inl x2), some (.inl x3), some (.inl x4)] [] M := by
  refine x_aload_n rfl rfl ?_
  refine x_iload_n rfl rfl ?_
  refine x_putI rfl rfl sh22 rfl ?_
  exact k _ rfl
theorem uX7_run_5 {d : Nat} {Q : Int → yM → Prop} {M : yM} {x1 : Nat} {x2 : Int} {x3 : Int} {x4 : Int} (k : ∀ M', M' = (put M 22 7 0) → XW kX7_run d (some .int) (wQi Q) 10 [some (.inr (.inr 22)), some (.inr (.inr x1)), some (.inl x2), some (.inl x3), some (.inl x4)] [] M') : XW kX7_run d (some .int) (wQi Q) 5 [some (.inr (.inr 22)), some (.inr (.inr x1)), some (.inl x2), some (.inl x3), some (.inl x4)] [] M := by
  refine x_aload_n rfl rfl ?_
  refine x_iconst 0 rfl (by decide) ?_
  refine x_putI rfl rfl sh22 rfl ?_
  exact k _ rfl
theorem uX7_run_10 {d : Nat} {Q : Int → yM → Prop} {M : yM} {x1 : Nat} {x2 : Int} {x3 : Int} {x4 : Int} (k : ∀ M', M' = (put M 22 8 0) → XW kX7_run d (some .int) (wQi Q) 15 [some (.inr (.inr 22)), some (.inr (.inr x1)), some (.inl x2), some (.inl x3), some (.inl x4)] [] M') : XW kX7_run d (some .int) (wQi Q) 10 [some (.inr (.inr 22)), some (.inr (.inr x1)), some (.inl x2), some (.inl x3), some (.inl x4)] [] M := by
  refine x_aload_n rfl rfl ?_
  refine x_iconst 0 rfl (by decide) ?_
  refine x_putI rfl rfl sh22 rfl ?_
  exact k _ rfl
theorem uX7_run_15 {d : Nat} {Q : Int → yM → Prop} {M : yM} {x1 : Nat} {x2 : Int} {x3 : Int} {x4 : Int} (k : ∀ M', M' = (put M 22 9 x3) → XW kX7_run d (some .int) (wQi Q) 20 [some (.inr (.inr 22)), some (.inr (.inr x1)), some (.inl x2), some (.inl x3), some (.inl x4)] [] M') : XW kX7_run d (some .int) (wQi Q) 15 [some (.inr (.inr 22)), some (.inr (.inr x1)), some (.inl x2), some (.inl x3), some (.inl x4)] [] M := by
  refine x_aload_n rfl rfl ?_
  refine x_iload_n rfl rfl ?_
  refine x_putI rfl rfl sh22 rfl ?_
  exact k _ rfl
theorem uX7_run_20 {d : Nat} {Q : Int → yM → Prop} {M : yM} {x1 : Nat} {x2 : Int} {x3 : Int} {x4 : Int} (h1 : x4 = 0 ∨ x4 = 1) (k : ∀ M', M' = (put M 22 10 x4) → XW kX7_run d (some .int) (wQi Q) 26 [some (.inr (.inr 22)), some (.inr (.inr x1)), some (.inl x2), some (.inl x3), some (.inl x4)] [] M') : XW kX7_run d (some .int) (wQi Q) 20 [some (.inr (.inr 22)), some (.inr (.inr x1)), some (.inl x2), some (.inl x3), some (.inl x4)] [] M := by
  refine x_aload_n rfl rfl ?_
  refine x_iload rfl rfl ?_
  refine x_putZ rfl rfl sh22 rfl h1 ?_
  exact k _ rfl
theorem uX7_run_26 {d : Nat} {Q : Int → yM → Prop} {M : yM} {x1 : Nat} {x2 : Int} {x3 : Int} {x4 : Int} (kt : (ld M 22 10) = 0 → XW kX7_run d (some .int) (wQi Q) 37 [some (.inr (.inr 22)), some (.inr (.inr x1)), some (.inl x2), some (.inl x3), some (.inl x4)] [] M) (kf : (ld M 22 10) ≠ 0 → XW kX7_run d (some .int) (wQi Q) 33 [some (.inr (.inr 22)), some (.inr (.inr x1)), some (.inl x2), some (.inl x3), some (.inl x4)] [] M) : XW kX7_run d (some .int) (wQi Q) 26 [some (.inr (.inr 22)), some (.inr (.inr x1)), some (.inl x2), some (.inl x3), some (.inl x4)] [] M := by
  refine x_aload_n rfl rfl ?_
  refine x_getI rfl sh22 rfl ?_
  exact x_ifeq rfl (rng_ld _ _ _) kt kf
theorem uX7_run_33 {d : Nat} {Q : Int → yM → Prop} {M : yM} {x1 : Nat} {x2 : Int} {x3 : Int} {x4 : Int} (k : XCv d 47 [.inr (.inr 22)] M (fun M' => XW kX7_run (d + 1) (some .int) (wQi Q) 37 [some (.inr (.inr 22)), some (.inr (.inr x1)), some (.inl x2), some (.inl x3), some (.inl x4)] [] M')) : XW kX7_run (d + 1) (some .int) (wQi Q) 33 [some (.inr (.inr 22)), some (.inr (.inr x1)), some (.inl x2), some (.inl x3), some (.inl x4)] [] M := by
  refine x_aload_n rfl rfl ?_
  exact x_callv (args := [.inr (.inr 22)]) rfl rfl rfl k
theorem uX7_run_37 {d : Nat} {Q : Int → yM → Prop} {M : yM} {x1 : Nat} {x2 : Int} {x3 : Int} {x4 : Int} (k : XCv d 181 [.inr (.inr 53), .inl 0] M (fun M' => XW kX7_run (d + 1) (some .int) (wQi Q) 45 [some (.inr (.inr 22)), some (.inr (.inr x1)), some (.inl x2), some (.inl x3), some (.inl x4)] [] M')) : XW kX7_run (d + 1) (some .int) (wQi Q) 37 [some (.inr (.inr 22)), some (.inr (.inr x1)), some (.inl x2), some (.inl x3), some (.inl x4)] [] M := by
  refine x_aload_n rfl rfl ?_
  refine x_getR rfl sh22 rfl ?_
  refine x_iconst 0 rfl (by decide) ?_
  exact x_callv (args := [.inr (.inr 53), .inl 0]) rfl rfl rfl k
theorem uX7_run_45 {d : Nat} {Q : Int → yM → Prop} {M : yM} {x1 : Nat} {x2 : Int} {x3 : Int} {x4 : Int} (h1 : arrSh x1 64) (k : ∀ M', M' = (cpy M x1 24 0 0 64) → XW kX7_run d (some .int) (wQi Q) 59 [some (.inr (.inr 22)), some (.inr (.inr x1)), some (.inl x2), some (.inl x3), some (.inl x4)] [] M') : XW kX7_run d (some .int) (wQi Q) 45 [some (.inr (.inr 22)), some (.inr (.inr x1)), some (.inl x2), some (.inl x3), some (.inl x4)] [] M := by
  refine x_aload_n rfl rfl ?_
  refine x_iconst 0 rfl (by decide) ?_
  refine x_aload_n rfl rfl ?_
  refine x_getR rfl sh22 rfl ?_
  refine x_iconst 0 rfl (by decide) ?_
  refine x_aaload (r := 24) rfl ⟨sh23, Nat.le_of_ble_eq_true rfl⟩ (by decide) (by decide) (yref23 (by decide)) ?_
  refine x_iconst 0 rfl (by decide) ?_
  refine x_bipush 64 rfl (by decide) ?_
  refine x_cpy rfl h1 ⟨sh24, Nat.le_of_ble_eq_true rfl⟩ (by decide) (Nat.le_of_ble_eq_true rfl) ?_
  exact k _ rfl
theorem uX7_run_59 {d : Nat} {Q : Int → yM → Prop} {M : yM} {x1 : Nat} {x2 : Int} {x3 : Int} {x4 : Int} (k : XCi d 117 [.inr (.inr 24), .inl (ld M 22 6)] M (fun v M' => XW kX7_run (d + 1) (some .int) (wQi Q) 72 [some (.inr (.inr 22)), some (.inr (.inr x1)), some (.inl x2), some (.inl x3), some (.inl x4)] [.inl v] M')) : XW kX7_run (d + 1) (some .int) (wQi Q) 59 [some (.inr (.inr 22)), some (.inr (.inr x1)), some (.inl x2), some (.inl x3), some (.inl x4)] [] M := by
  refine x_aload_n rfl rfl ?_
  refine x_getR rfl sh22 rfl ?_
  refine x_iconst 0 rfl (by decide) ?_
  refine x_aaload (r := 24) rfl ⟨sh23, Nat.le_of_ble_eq_true rfl⟩ (by decide) (by decide) (yref23 (by decide)) ?_
  refine x_aload_n rfl rfl ?_
  refine x_getI rfl sh22 rfl ?_
  exact x_calli (args := [.inr (.inr 24), .inl (ld M 22 6)]) rfl rfl rfl k
theorem uX7_run_72 {d : Nat} {Q : Int → yM → Prop} {M : yM} {x1 : Nat} {x2 : Int} {x3 : Int} {x4 : Int} {s0 : Int} (h1 : -2147483648 ≤ s0 ∧ s0 < 2147483648) (kt : s0 ≠ 0 → XW kX7_run d (some .int) (wQi Q) 105 [some (.inr (.inr 22)), some (.inr (.inr x1)), some (.inl x2), some (.inl x3), some (.inl x4)] [] M) (kf : s0 = 0 → XW kX7_run d (some .int) (wQi Q) 75 [some (.inr (.inr 22)), some (.inr (.inr x1)), some (.inl x2), some (.inl x3), some (.inl x4)] [] M) : XW kX7_run d (some .int) (wQi Q) 72 [some (.inr (.inr 22)), some (.inr (.inr x1)), some (.inl x2), some (.inl x3), some (.inl x4)] [.inl s0] M := by
  exact x_ifne rfl h1 kt kf
theorem uX7_run_75 {d : Nat} {Q : Int → yM → Prop} {M : yM} {x1 : Nat} {x2 : Int} {x3 : Int} {x4 : Int} (k : XCl d 48 [.inr (.inr 22)] M (fun v M' => XW kX7_run (d + 1) (some .int) (wQi Q) 93 [some (.inr (.inr 22)), some (.inr (.inr x1)), some (.inl x2), some (.inl x3), some (.inl x4)] [.inr (.inl v), .inl (ld M 22 6), .inr (.inr 24), .inr (.inr 21)] M')) : XW kX7_run (d + 1) (some .int) (wQi Q) 75 [some (.inr (.inr 22)), some (.inr (.inr x1)), some (.inl x2), some (.inl x3), some (.inl x4)] [] M := by
  refine x_aload_n rfl rfl ?_
  refine x_getR rfl sh22 rfl ?_
  refine x_aload_n rfl rfl ?_
  refine x_getR rfl sh22 rfl ?_
  refine x_iconst 0 rfl (by decide) ?_
  refine x_aaload (r := 24) rfl ⟨sh23, Nat.le_of_ble_eq_true rfl⟩ (by decide) (by decide) (yref23 (by decide)) ?_
  refine x_aload_n rfl rfl ?_
  refine x_getI rfl sh22 rfl ?_
  refine x_aload_n rfl rfl ?_
  exact x_calll (args := [.inr (.inr 22)]) rfl rfl rfl k
theorem uX7_run_93 {d : Nat} {Q : Int → yM → Prop} {M : yM} {x1 : Nat} {x2 : Int} {x3 : Int} {x4 : Int} {s0 : Int} {s1 : Int} (k : XCi d 57 [.inr (.inr 21), .inr (.inr 24), .inl s1, .inr (.inl s0)] M (fun v M' => XW kX7_run (d + 1) (some .int) (wQi Q) 96 [some (.inr (.inr 22)), some (.inr (.inr x1)), some (.inl x2), some (.inl x3), some (.inl x4)] [.inl v] M')) : XW kX7_run (d + 1) (some .int) (wQi Q) 93 [some (.inr (.inr 22)), some (.inr (.inr x1)), some (.inl x2), some (.inl x3), some (.inl x4)] [.inr (.inl s0), .inl s1, .inr (.inr 24), .inr (.inr 21)] M := by
  exact x_calli (args := [.inr (.inr 21), .inr (.inr 24), .inl s1, .inr (.inl s0)]) rfl rfl rfl k
theorem uX7_run_96 {d : Nat} {Q : Int → yM → Prop} {M : yM} {x1 : Nat} {x2 : Int} {x3 : Int} {x4 : Int} {s0 : Int} (h1 : -2147483648 ≤ s0 ∧ s0 < 2147483648) (kt : s0 = 0 → XW kX7_run d (some .int) (wQi Q) 105 [some (.inr (.inr 22)), some (.inr (.inr x1)), some (.inl x2), some (.inl x3), some (.inl x4)] [] M) (kf : s0 ≠ 0 → XW kX7_run d (some .int) (wQi Q) 99 [some (.inr (.inr 22)), some (.inr (.inr x1)), some (.inl x2), some (.inl x3), some (.inl x4)] [] M) : XW kX7_run d (some .int) (wQi Q) 96 [some (.inr (.inr 22)), some (.inr (.inr x1)), some (.inl x2), some (.inl x3), some (.inl x4)] [.inl s0] M := by
  exact x_ifeq rfl h1 kt kf
theorem uX7_run_99 {d : Nat} {Q : Int → yM → Prop} {M : yM} {x1 : Nat} {x2 : Int} {x3 : Int} {x4 : Int} (k : XCi d 49 [.inr (.inr 22), .inl 0] M (fun v M' => XW kX7_run (d + 1) (some .int) (wQi Q) 104 [some (.inr (.inr 22)), some (.inr (.inr x1)), some (.inl x2), some (.inl x3), some (.inl x4)] [.inl v] M')) : XW kX7_run (d + 1) (some .int) (wQi Q) 99 [some (.inr (.inr 22)), some (.inr (.inr x1)), some (.inl x2), some (.inl x3), some (.inl x4)] [] M := by
  refine x_aload_n rfl rfl ?_
  refine x_iconst 0 rfl (by decide) ?_
  exact x_calli (args := [.inr (.inr 22), .inl 0]) rfl rfl rfl k
theorem uX7_run_104 {d : Nat} {Q : Int → yM → Prop} {M : yM} {x1 : Nat} {x2 : Int} {x3 : Int} {x4 : Int} {s0 : Int} (k : XW kX7_run d (some .int) (wQi Q) 105 [some (.inr (.inr 22)), some (.inr (.inr x1)), some (.inl x2), some (.inl x3), some (.inl x4)] [] M) : XW kX7_run d (some .int) (wQi Q) 104 [some (.inr (.inr 22)), some (.inr (.inr x1)), some (.inl x2), some (.inl x3), some (.inl x4)] [.inl s0] M := by
  refine x_popi rfl ?_
  exact k
theorem uX7_run_105 {d : Nat} {Q : Int → yM → Prop} {M : yM} {x1 : Nat} {x2 : Int} {x3 : Int} {x4 : Int} (k : Q (ld M 22 7) M) : XW kX7_run d (some .int) (wQi Q) 105 [some (.inr (.inr 22)), some (.inr (.inr x1)), some (.inl x2), some (.inl x3), some (.inl x4)] [] M := by
  refine x_aload_n rfl rfl ?_
  refine x_getI rfl sh22 rfl ?_
  exact x_ireturn rfl k
theorem eX7_listBetween {d : Nat} {Q : yM → Prop} {M : yM}   (h : XW kX7_listBetween d none (wQv Q) 0 [some (.inr (.inr 22)), none, none, none] [] M) : XCv d 47 [.inr (.inr 22)] M Q :=
  XC.ofW (Mm := (yX7_listBetween, cX7_listBetween, 4, none, 8, kX7_listBetween)) rfl (rcv_ok sh22) rfl rfl h
theorem uX7_listBetween_0 {d : Nat} {Q : yM → Prop} {M : yM}  (k : XW kX7_listBetween d none (wQv Q) 2 [some (.inr (.inr 22)), some (.inl 0), none, none] [] M) : XW kX7_listBetween d none (wQv Q) 0 [some (.inr (.inr 22)), none, none, none] [] M := by
  refine x_iconst 0 rfl (by decide) ?_
  refine x_istore_n rfl (Nat.le_of_ble_eq_true rfl) rfl ?_
  exact k
theorem uX7_listBetween_2 {d : Nat} {Q : yM → Prop} {M : yM} {x1 : Int} {wx2 : Option yV} {wx3 : Option yV} (h1 : -2147483648 ≤ x1 ∧ x1 < 2147483648) (kt : x1 ≥ 8 → XW kX7_listBetween d none (wQv Q) 89 [some (.inr (.inr 22)), some (.inl x1), wx2, wx3] [] M) (kf : x1 < 8 → XW kX7_listBetween d none (wQv Q) 8 [some (.inr (.inr 22)), some (.inl x1), wx2, wx3] [] M) : XW kX7_listBetween d none (wQv Q) 2 [some (.inr (.inr 22)), some (.inl x1), wx2, wx3] [] M := by
  refine x_iload_n rfl rfl ?_
  refine x_bipush 8 rfl (by decide) ?_
  exact x_icmpge rfl h1 (by decide) kt kf
theorem uX7_listBetween_8 {d : Nat} {Q : yM → Prop} {M : yM} {x1 : Int} {wx2 : Option yV} {wx3 : Option yV} (h1 : 0 ≤ x1 ∧ x1 < 8) (k : ∀ M', M' = (putL M 55 x1 0) → XW kX7_listBetween d none (wQv Q) 15 [some (.inr (.inr 22)), some (.inl x1), wx2, wx3] [] M') : XW kX7_listBetween d none (wQv Q) 8 [some (.inr (.inr 22)), some (.inl x1), wx2, wx3] [] M := by
  refine x_aload_n rfl rfl ?_
  refine x_getR rfl sh22 rfl ?_
  refine x_iload_n rfl rfl ?_
  refine x_lconst 0 rfl (by decide) ?_
  refine x_lastore rfl ⟨sh55, Nat.le_of_ble_eq_true rfl⟩ h1 ?_
  exact k _ rfl
theorem uX7_listBetween_15 {d : Nat} {Q : yM → Prop} {M : yM} {x1 : Int} {wx2 : Option yV} {wx3 : Option yV} (k : XW kX7_listBetween d none (wQv Q) 17 [some (.inr (.inr 22)), some (.inl x1), some (.inl 1), wx3] [] M) : XW kX7_listBetween d none (wQv Q) 15 [some (.inr (.inr 22)), some (.inl x1), wx2, wx3] [] M := by
  refine x_iconst 1 rfl (by decide) ?_
  refine x_istore_n rfl (Nat.le_of_ble_eq_true rfl) rfl ?_
  exact k
theorem uX7_listBetween_17 {d : Nat} {Q : yM → Prop} {M : yM} {x1 : Int} {x2 : Int} {wx3 : Option yV} (h1 : -2147483648 ≤ x2 ∧ x2 < 2147483648) (kt : x2 ≥ (ld M 1 0) → XW kX7_listBetween d none (wQv Q) 83 [some (.inr (.inr 22)), some (.inl x1), some (.inl x2), wx3] [] M) (kf : x2 < (ld M 1 0) → XW kX7_listBetween d none (wQv Q) 28 [some (.inr (.inr 22)), some (.inl x1), some (.inl x2), wx3] [] M) : XW kX7_listBetween d none (wQv Q) 17 [some (.inr (.inr 22)), some (.inl x1), some (.inl x2), wx3] [] M := by
  refine x_iload_n rfl rfl ?_
  refine x_aload_n rfl rfl ?_
  refine x_getR rfl sh22 rfl ?_
  refine x_getI rfl sh1 rfl ?_
  exact x_icmpge rfl h1 (rng_ld _ _ _) kt kf
theorem uX7_listBetween_28 {d : Nat} {Q : yM → Prop} {M : yM} {x1 : Int} {x2 : Int} {wx3 : Option yV} (k : XW kX7_listBetween d none (wQv Q) 30 [some (.inr (.inr 22)), some (.inl x1), some (.inl x2), some (.inl 1)] [] M) : XW kX7_listBetween d none (wQv Q) 28 [some (.inr (.inr 22)), some (.inl x1), some (.inl x2), wx3] [] M := by
  refine x_iconst 1 rfl (by decide) ?_
  refine x_istore_n rfl (Nat.le_of_ble_eq_true rfl) rfl ?_
  exact k
theorem uX7_listBetween_30 {d : Nat} {Q : yM → Prop} {M : yM} {x1 : Int} {x2 : Int} {x3 : Int} (h1 : -2147483648 ≤ x3 ∧ x3 < 2147483648) (kt : x3 ≥ (ld M 1 0) → XW kX7_listBetween d none (wQv Q) 77 [some (.inr (.inr 22)), some (.inl x1), some (.inl x2), some (.inl x3)] [] M) (kf : x3 < (ld M 1 0) → XW kX7_listBetween d none (wQv Q) 41 [some (.inr (.inr 22)), some (.inl x1), some (.inl x2), some (.inl x3)] [] M) : XW kX7_listBetween d none (wQv Q) 30 [some (.inr (.inr 22)), some (.inl x1), some (.inl x2), some (.inl x3)] [] M := by
  refine x_iload_n rfl rfl ?_
  refine x_aload_n rfl rfl ?_
  refine x_getR rfl sh22 rfl ?_
  refine x_getI rfl sh1 rfl ?_
  exact x_icmpge rfl h1 (rng_ld _ _ _) kt kf
theorem uX7_listBetween_41 {d : Nat} {Q : yM → Prop} {M : yM} {x1 : Int} {x2 : Int} {x3 : Int} (k : XCi d 65 [.inr (.inr 1), .inl x2, .inl x3, .inl x1] M (fun v M' => XW kX7_listBetween (d + 1) none (wQv Q) 51 [some (.inr (.inr 22)), some (.inl x1), some (.inl x2), some (.inl x3)] [.inl v] M')) : XW kX7_listBetween (d + 1) none (wQv Q) 41 [some (.inr (.inr 22)), some (.inl x1), some (.inl x2), some (.inl x3)] [] M := by
  refine x_aload_n rfl rfl ?_
  refine x_getR rfl sh22 rfl ?_
  refine x_iload_n rfl rfl ?_
  refine x_iload_n rfl rfl ?_
  refine x_iload_n rfl rfl ?_
  exact x_calli (args := [.inr (.inr 1), .inl x2, .inl x3, .inl x1]) rfl rfl rfl k
theorem uX7_listBetween_51 {d : Nat} {Q : yM → Prop} {M : yM} {x1 : Int} {x2 : Int} {x3 : Int} {s0 : Int} (h1 : -2147483648 ≤ s0 ∧ s0 < 2147483648) (kt : s0 = 0 → XW kX7_listBetween d none (wQv Q) 71 [some (.inr (.inr 22)), some (.inl x1), some (.inl x2), some (.inl x3)] [] M) (kf : s0 ≠ 0 → XW kX7_listBetween d none (wQv Q) 54 [some (.inr (.inr 22)), some (.inl x1), some (.inl x2), some (.inl x3)] [] M) : XW kX7_listBetween d none (wQv Q) 51 [some (.inr (.inr 22)), some (.inl x1), some (.inl x2), some (.inl x3)] [.inl s0] M := by
  exact x_ifeq rfl h1 kt kf
theorem uX7_listBetween_54 {d : Nat} {Q : yM → Prop} {M : yM} {x1 : Int} {x2 : Int} {x3 : Int} (h1 : 0 ≤ x1 ∧ x1 < 8) (h2 : 0 ≤ x1 ∧ x1 < 8) (k : ∀ M', M' = (putL M 55 x1 (zor (ldL M 55 x1) (zshl 1 ((8 * x2) + x3)))) → XW kX7_listBetween d none (wQv Q) 71 [some (.inr (.inr 22)), some (.inl x1), some (.inl x2), some (.inl x3)] [] M') : XW kX7_listBetween d none (wQv Q) 54 [some (.inr (.inr 22)), some (.inl x1), some (.inl x2), some (.inl x3)] [] M := by
  refine x_aload_n rfl rfl ?_
  refine x_getR rfl sh22 rfl ?_
  refine x_iload_n rfl rfl ?_
  refine x_dup2 rfl ?_
  refine x_laload rfl ⟨sh55, Nat.le_of_ble_eq_true rfl⟩ h1 ?_
  refine x_lconst 1 rfl (by decide) ?_
  refine x_bipush 8 rfl (by decide) ?_
  refine x_iload_n rfl rfl ?_
  refine x_imul rfl ?_
  refine x_iload_n rfl rfl ?_
  refine x_iadd rfl ?_
  refine x_lshl rfl ?_
  refine x_lor rfl ?_
  refine x_lastore rfl ⟨sh55, Nat.le_of_ble_eq_true rfl⟩ h2 ?_
  exact k _ rfl
theorem uX7_listBetween_71 {d : Nat} {Q : yM → Prop} {M : yM} {x1 : Int} {x2 : Int} {x3 : Int} (k : XW kX7_listBetween d none (wQv Q) 30 [some (.inr (.inr 22)), some (.inl x1), some (.inl x2), some (.inl (x3 + 1))] [] M) : XW kX7_listBetween d none (wQv Q) 71 [some (.inr (.inr 22)), some (.inl x1), some (.inl x2), some (.inl x3)] [] M := by
  refine x_iinc 1 rfl (by decide) rfl rfl ?_
  exact x_goto rfl k
theorem uX7_listBetween_77 {d : Nat} {Q : yM → Prop} {M : yM} {x1 : Int} {x2 : Int} {x3 : Int} (k : XW kX7_listBetween d none (wQv Q) 17 [some (.inr (.inr 22)), some (.inl x1), some (.inl (x2 + 1)), some (.inl x3)] [] M) : XW kX7_listBetween d none (wQv Q) 77 [some (.inr (.inr 22)), some (.inl x1), some (.inl x2), some (.inl x3)] [] M := by
  refine x_iinc 1 rfl (by decide) rfl rfl ?_
  exact x_goto rfl k
theorem uX7_listBetween_83 {d : Nat} {Q : yM → Prop} {M : yM} {x1 : Int} {x2 : Int} {wx3 : Option yV} (k : XW kX7_listBetween d none (wQv Q) 2 [some (.inr (.inr 22)), some (.inl (x1 + 1)), some (.inl x2), wx3] [] M) : XW kX7_listBetween d none (wQv Q) 83 [some (.inr (.inr 22)), some (.inl x1), some (.inl x2), wx3] [] M := by
  refine x_iinc 1 rfl (by decide) rfl rfl ?_
  exact x_goto rfl k
theorem uX7_listBetween_89 {d : Nat} {Q : yM → Prop} {M : yM} {x1 : Int} {wx2 : Option yV} {wx3 : Option yV} (k : Q M) : XW kX7_listBetween d none (wQv Q) 89 [some (.inr (.inr 22)), some (.inl x1), wx2, wx3] [] M := by
  exact x_return rfl k
theorem eX7_pairsNotAll {d : Nat} {Q : Int → yM → Prop} {M : yM}   (h : XW kX7_pairsNotAll d (some .long) (wQl Q) 0 [some (.inr (.inr 22)), none, none, none, none] [] M) : XCl d 48 [.inr (.inr 22)] M Q :=
  XC.ofW (Mm := (yX7_pairsNotAll, cX7_pairsNotAll, 5, (some .long), 8, kX7_pairsNotAll)) rfl (rcv_ok sh22) rfl rfl h
theorem uX7_pairsNotAll_0 {d : Nat} {Q : Int → yM → Prop} {M : yM}  (k : XW kX7_pairsNotAll d (some .long) (wQl Q) 4 [some (.inr (.inr 22)), some (.inr (.inl 0)), none, some (.inl 0), none] [] M) : XW kX7_pairsNotAll d (some .long) (wQl Q) 0 [some (.inr (.inr 22)), none, none, none, none] [] M := by
  refine x_lconst 0 rfl (by decide) ?_
  refine x_lstore_n rfl (Nat.le_of_ble_eq_true rfl) rfl ?_
  refine x_iconst 0 rfl (by decide) ?_
  refine x_istore_n rfl (Nat.le_of_ble_eq_true rfl) rfl ?_
  exact k
theorem uX7_pairsNotAll_4 {d : Nat} {Q : Int → yM → Prop} {M : yM} {x1 : Int} {x3 : Int} {wx4 : Option yV} (h1 : -2147483648 ≤ x3 ∧ x3 < 2147483648) (kt : x3 ≥ (ld M 22 6) → XW kX7_pairsNotAll d (some .long) (wQl Q) 71 [some (.inr (.inr 22)), some (.inr (.inl x1)), none, some (.inl x3), wx4] [] M) (kf : x3 < (ld M 22 6) → XW kX7_pairsNotAll d (some .long) (wQl Q) 12 [some (.inr (.inr 22)), some (.inr (.inl x1)), none, some (.inl x3), wx4] [] M) : XW kX7_pairsNotAll d (some .long) (wQl Q) 4 [some (.inr (.inr 22)), some (.inr (.inl x1)), none, some (.inl x3), wx4] [] M := by
  refine x_iload_n rfl rfl ?_
  refine x_aload_n rfl rfl ?_
  refine x_getI rfl sh22 rfl ?_
  exact x_icmpge rfl h1 (rng_ld _ _ _) kt kf
theorem uX7_pairsNotAll_12 {d : Nat} {Q : Int → yM → Prop} {M : yM} {x1 : Int} {x3 : Int} {wx4 : Option yV} (k : XW kX7_pairsNotAll d (some .long) (wQl Q) 17 [some (.inr (.inr 22)), some (.inr (.inl x1)), none, some (.inl x3), some (.inl (x3 + 1))] [] M) : XW kX7_pairsNotAll d (some .long) (wQl Q) 12 [some (.inr (.inr 22)), some (.inr (.inl x1)), none, some (.inl x3), wx4] [] M := by
  refine x_iload_n rfl rfl ?_
  refine x_iconst 1 rfl (by decide) ?_
  refine x_iadd rfl ?_
  refine x_istore rfl (Nat.le_of_ble_eq_true rfl) rfl ?_
  exact k
theorem uX7_pairsNotAll_17 {d : Nat} {Q : Int → yM → Prop} {M : yM} {x1 : Int} {x3 : Int} {x4 : Int} (h1 : -2147483648 ≤ x4 ∧ x4 < 2147483648) (kt : x4 ≥ (ld M 22 6) → XW kX7_pairsNotAll d (some .long) (wQl Q) 65 [some (.inr (.inr 22)), some (.inr (.inl x1)), none, some (.inl x3), some (.inl x4)] [] M) (kf : x4 < (ld M 22 6) → XW kX7_pairsNotAll d (some .long) (wQl Q) 26 [some (.inr (.inr 22)), some (.inr (.inl x1)), none, some (.inl x3), some (.inl x4)] [] M) : XW kX7_pairsNotAll d (some .long) (wQl Q) 17 [some (.inr (.inr 22)), some (.inr (.inl x1)), none, some (.inl x3), some (.inl x4)] [] M := by
  refine x_iload rfl rfl ?_
  refine x_aload_n rfl rfl ?_
  refine x_getI rfl sh22 rfl ?_
  exact x_icmpge rfl h1 (rng_ld _ _ _) kt kf
theorem uX7_pairsNotAll_26 {d : Nat} {Q : Int → yM → Prop} {M : yM} {x1 : Int} {x3 : Int} {x4 : Int} (h1 : 0 ≤ ((8 * x3) + x4) ∧ ((8 * x3) + x4) < 64) (k : XCi d 60 [.inr (.inr 1)] M (fun v M' => XW kX7_pairsNotAll (d + 1) (some .long) (wQl Q) 47 [some (.inr (.inr 22)), some (.inr (.inl x1)), none, some (.inl x3), some (.inl x4)] [.inl v, .inl (ld M 24 ((8 * x3) + x4))] M')) : XW kX7_pairsNotAll (d + 1) (some .long) (wQl Q) 26 [some (.inr (.inr 22)), some (.inr (.inl x1)), none, some (.inl x3), some (.inl x4)] [] M := by
  refine x_aload_n rfl rfl ?_
  refine x_getR rfl sh22 rfl ?_
  refine x_iconst 0 rfl (by decide) ?_
  refine x_aaload (r := 24) rfl ⟨sh23, Nat.le_of_ble_eq_true rfl⟩ (by decide) (by decide) (yref23 (by decide)) ?_
  refine x_bipush 8 rfl (by decide) ?_
  refine x_iload_n rfl rfl ?_
  refine x_imul rfl ?_
  refine x_iload rfl rfl ?_
  refine x_iadd rfl ?_
  refine x_iaload rfl ⟨sh24, Nat.le_of_ble_eq_true rfl⟩ h1 ?_
  refine x_aload_n rfl rfl ?_
  refine x_getR rfl sh22 rfl ?_
  exact x_calli (args := [.inr (.inr 1)]) rfl rfl rfl k
theorem uX7_pairsNotAll_47 {d : Nat} {Q : Int → yM → Prop} {M : yM} {x1 : Int} {x3 : Int} {x4 : Int} {s0 : Int} {s1 : Int} (h1 : -2147483648 ≤ s1 ∧ s1 < 2147483648) (h2 : -2147483648 ≤ s0 ∧ s0 < 2147483648) (kt : s1 = s0 → XW kX7_pairsNotAll d (some .long) (wQl Q) 59 [some (.inr (.inr 22)), some (.inr (.inl x1)), none, some (.inl x3), some (.inl x4)] [] M) (kf : s1 ≠ s0 → XW kX7_pairsNotAll d (some .long) (wQl Q) 50 [some (.inr (.inr 22)), some (.inr (.inl x1)), none, some (.inl x3), some (.inl x4)] [] M) : XW kX7_pairsNotAll d (some .long) (wQl Q) 47 [some (.inr (.inr 22)), some (.inr (.inl x1)), none, some (.inl x3), some (.inl x4)] [.inl s0, .inl s1] M := by
  exact x_icmpeq rfl h1 h2 kt kf
theorem uX7_pairsNotAll_50 {d : Nat} {Q : Int → yM → Prop} {M : yM} {x1 : Int} {x3 : Int} {x4 : Int} (k : XCl d 118 [.inl x3, .inl x4] M (fun v M' => XW kX7_pairsNotAll (d + 1) (some .long) (wQl Q) 57 [some (.inr (.inr 22)), some (.inr (.inl x1)), none, some (.inl x3), some (.inl x4)] [.inr (.inl v), .inr (.inl x1)] M')) : XW kX7_pairsNotAll (d + 1) (some .long) (wQl Q) 50 [some (.inr (.inr 22)), some (.inr (.inl x1)), none, some (.inl x3), some (.inl x4)] [] M := by
  refine x_lload_n rfl rfl ?_
  refine x_iload_n rfl rfl ?_
  refine x_iload rfl rfl ?_
  exact x_calll (args := [.inl x3, .inl x4]) rfl rfl rfl k
theorem uX7_pairsNotAll_57 {d : Nat} {Q : Int → yM → Prop} {M : yM} {x1 : Int} {x3 : Int} {x4 : Int} {s0 : Int} {s1 : Int} (k : XW kX7_pairsNotAll d (some .long) (wQl Q) 59 [some (.inr (.inr 22)), some (.inr (.inl (zor s1 s0))), none, some (.inl x3), some (.inl x4)] [] M) : XW kX7_pairsNotAll d (some .long) (wQl Q) 57 [some (.inr (.inr 22)), some (.inr (.inl x1)), none, some (.inl x3), some (.inl x4)] [.inr (.inl s0), .inr (.inl s1)] M := by
  refine x_lor rfl ?_
  refine x_lstore_n rfl (Nat.le_of_ble_eq_true rfl) rfl ?_
  exact k
theorem uX7_pairsNotAll_59 {d : Nat} {Q : Int → yM → Prop} {M : yM} {x1 : Int} {x3 : Int} {x4 : Int} (k : XW kX7_pairsNotAll d (some .long) (wQl Q) 17 [some (.inr (.inr 22)), some (.inr (.inl x1)), none, some (.inl x3), some (.inl (x4 + 1))] [] M) : XW kX7_pairsNotAll d (some .long) (wQl Q) 59 [some (.inr (.inr 22)), some (.inr (.inl x1)), none, some (.inl x3), some (.inl x4)] [] M := by
  refine x_iinc 1 rfl (by decide) rfl rfl ?_
  exact x_goto rfl k
theorem uX7_pairsNotAll_65 {d : Nat} {Q : Int → yM → Prop} {M : yM} {x1 : Int} {x3 : Int} {x4 : Int} (k : XW kX7_pairsNotAll d (some .long) (wQl Q) 4 [some (.inr (.inr 22)), some (.inr (.inl x1)), none, some (.inl (x3 + 1)), some (.inl x4)] [] M) : XW kX7_pairsNotAll d (some .long) (wQl Q) 65 [some (.inr (.inr 22)), some (.inr (.inl x1)), none, some (.inl x3), some (.inl x4)] [] M := by
  refine x_iinc 1 rfl (by decide) rfl rfl ?_
  exact x_goto rfl k
theorem uX7_pairsNotAll_71 {d : Nat} {Q : Int → yM → Prop} {M : yM} {x1 : Int} {x3 : Int} {wx4 : Option yV} (k : Q x1 M) : XW kX7_pairsNotAll d (some .long) (wQl Q) 71 [some (.inr (.inr 22)), some (.inr (.inl x1)), none, some (.inl x3), wx4] [] M := by
  refine x_lload_n rfl rfl ?_
  exact x_lreturn rfl k
theorem eX7_goOn {d : Nat} {Q : Int → yM → Prop} {M : yM} {x1 : Int}  (h : XW kX7_goOn d (some .boolean) (wQi Q) 0 [some (.inr (.inr 22)), some (.inl x1), none, none, none, none] [] M) : XCi d 49 [.inr (.inr 22), .inl x1] M Q :=
  XC.ofW (Mm := (yX7_goOn, cX7_goOn, 6, (some .boolean), 0, kX7_goOn)) rfl rfl rfl rfl h
theorem uX7_goOn_0 {d : Nat} {Q : Int → yM → Prop} {M : yM} {x1 : Int} (h1 : 0 ≤ x1 ∧ x1 < 29) (k : XCi d 50 [.inr (.inr 22), .inr (.inr (24 + (x1).toNat))] M (fun v M' => XW kX7_goOn (d + 1) (some .boolean) (wQi Q) 12 [some (.inr (.inr 22)), some (.inl x1), some (.inr (.inr (24 + (x1).toNat))), none, none, none] [.inl v] M')) : XW kX7_goOn (d + 1) (some .boolean) (wQi Q) 0 [some (.inr (.inr 22)), some (.inl x1), none, none, none, none] [] M := by
  refine x_aload_n rfl rfl ?_
  refine x_getR rfl sh22 rfl ?_
  refine x_iload_n rfl rfl ?_
  refine x_aaload rfl ⟨sh23, Nat.le_of_ble_eq_true rfl⟩ (by decide) h1 (yref23 h1) ?_
  refine x_astore_n rfl (Nat.le_of_ble_eq_true rfl) rfl ?_
  refine x_aload_n rfl rfl ?_
  refine x_aload_n rfl rfl ?_
  exact x_calli (args := [.inr (.inr 22), .inr (.inr (24 + (x1).toNat))]) rfl rfl rfl k
theorem uX7_goOn_12 {d : Nat} {Q : Int → yM → Prop} {M : yM} {x1 : Int} {x2 : Nat} {s0 : Int} (h1 : -2147483648 ≤ s0 ∧ s0 < 2147483648) (kt : s0 < 0 → XW kX7_goOn d (some .boolean) (wQi Q) 25 [some (.inr (.inr 22)), some (.inl x1), some (.inr (.inr x2)), some (.inl s0), none, none] [] M) (kf : s0 ≥ 0 → XW kX7_goOn d (some .boolean) (wQi Q) 17 [some (.inr (.inr 22)), some (.inl x1), some (.inr (.inr x2)), some (.inl s0), none, none] [] M) : XW kX7_goOn d (some .boolean) (wQi Q) 12 [some (.inr (.inr 22)), some (.inl x1), some (.inr (.inr x2)), none, none, none] [.inl s0] M := by
  refine x_istore_n rfl (Nat.le_of_ble_eq_true rfl) rfl ?_
  refine x_iload_n rfl rfl ?_
  exact x_iflt rfl h1 kt kf
theorem uX7_goOn_17 {d : Nat} {Q : Int → yM → Prop} {M : yM} {x1 : Int} {x2 : Nat} {x3 : Int} (h1 : -2147483648 ≤ (x1 + 1) ∧ (x1 + 1) < 2147483648) (kt : (x1 + 1) < 29 → XW kX7_goOn d (some .boolean) (wQi Q) 85 [some (.inr (.inr 22)), some (.inl x1), some (.inr (.inr x2)), some (.inl x3), none, none] [] M) (kf : (x1 + 1) ≥ 29 → XW kX7_goOn d (some .boolean) (wQi Q) 25 [some (.inr (.inr 22)), some (.inl x1), some (.inr (.inr x2)), some (.inl x3), none, none] [] M) : XW kX7_goOn d (some .boolean) (wQi Q) 17 [some (.inr (.inr 22)), some (.inl x1), some (.inr (.inr x2)), some (.inl x3), none, none] [] M := by
  refine x_iload_n rfl rfl ?_
  refine x_iconst 1 rfl (by decide) ?_
  refine x_iadd rfl ?_
  refine x_bipush 29 rfl (by decide) ?_
  exact x_icmplt rfl h1 (by decide) kt kf
theorem uX7_goOn_25 {d : Nat} {Q : Int → yM → Prop} {M : yM} {x1 : Int} {x2 : Nat} {x3 : Int} (k : XCv d 52 [.inr (.inr 22), .inr (.inr x2)] M (fun M' => XW kX7_goOn (d + 1) (some .boolean) (wQi Q) 30 [some (.inr (.inr 22)), some (.inl x1), some (.inr (.inr x2)), some (.inl x3), none, none] [] M')) : XW kX7_goOn (d + 1) (some .boolean) (wQi Q) 25 [some (.inr (.inr 22)), some (.inl x1), some (.inr (.inr x2)), some (.inl x3), none, none] [] M := by
  refine x_aload_n rfl rfl ?_
  refine x_aload_n rfl rfl ?_
  exact x_callv (args := [.inr (.inr 22), .inr (.inr x2)]) rfl rfl rfl k
theorem uX7_goOn_30 {d : Nat} {Q : Int → yM → Prop} {M : yM} {x1 : Int} {x2 : Nat} {x3 : Int} (kt : (ld M 22 9) ≠ 1 → XW kX7_goOn d (some .boolean) (wQi Q) 43 [some (.inr (.inr 22)), some (.inl x1), some (.inr (.inr x2)), some (.inl x3), none, none] [] M) (kf : (ld M 22 9) = 1 → XW kX7_goOn d (some .boolean) (wQi Q) 38 [some (.inr (.inr 22)), some (.inl x1), some (.inr (.inr x2)), some (.inl x3), none, none] [] M) : XW kX7_goOn d (some .boolean) (wQi Q) 30 [some (.inr (.inr 22)), some (.inl x1), some (.inr (.inr x2)), some (.inl x3), none, none] [] M := by
  refine x_aload_n rfl rfl ?_
  refine x_getI rfl sh22 rfl ?_
  refine x_iconst 1 rfl (by decide) ?_
  exact x_icmpne rfl (rng_ld _ _ _) (by decide) kt kf
theorem uX7_goOn_38 {d : Nat} {Q : Int → yM → Prop} {M : yM} {x1 : Int} {x2 : Nat} {x3 : Int} (k : XCv d 53 [.inr (.inr 22), .inr (.inr x2)] M (fun M' => XW kX7_goOn (d + 1) (some .boolean) (wQi Q) 43 [some (.inr (.inr 22)), some (.inl x1), some (.inr (.inr x2)), some (.inl x3), none, none] [] M')) : XW kX7_goOn (d + 1) (some .boolean) (wQi Q) 38 [some (.inr (.inr 22)), some (.inl x1), some (.inr (.inr x2)), some (.inl x3), none, none] [] M := by
  refine x_aload_n rfl rfl ?_
  refine x_aload_n rfl rfl ?_
  exact x_callv (args := [.inr (.inr 22), .inr (.inr x2)]) rfl rfl rfl k
theorem uX7_goOn_43 {d : Nat} {Q : Int → yM → Prop} {M : yM} {x1 : Int} {x2 : Nat} {x3 : Int} (kt : (ld M 22 10) = 0 → XW kX7_goOn d (some .boolean) (wQi Q) 68 [some (.inr (.inr 22)), some (.inl x1), some (.inr (.inr x2)), some (.inl x3), none, none] [] M) (kf : (ld M 22 10) ≠ 0 → XW kX7_goOn d (some .boolean) (wQi Q) 50 [some (.inr (.inr 22)), some (.inl x1), some (.inr (.inr x2)), some (.inl x3), none, none] [] M) : XW kX7_goOn d (some .boolean) (wQi Q) 43 [some (.inr (.inr 22)), some (.inl x1), some (.inr (.inr x2)), some (.inl x3), none, none] [] M := by
  refine x_aload_n rfl rfl ?_
  refine x_getI rfl sh22 rfl ?_
  exact x_ifeq rfl (rng_ld _ _ _) kt kf
theorem uX7_goOn_50 {d : Nat} {Q : Int → yM → Prop} {M : yM} {x1 : Int} {x2 : Nat} {x3 : Int} (k : XCi d 54 [.inr (.inr 22), .inr (.inr x2)] M (fun v M' => XW kX7_goOn (d + 1) (some .boolean) (wQi Q) 55 [some (.inr (.inr 22)), some (.inl x1), some (.inr (.inr x2)), some (.inl x3), none, none] [.inl v] M')) : XW kX7_goOn (d + 1) (some .boolean) (wQi Q) 50 [some (.inr (.inr 22)), some (.inl x1), some (.inr (.inr x2)), some (.inl x3), none, none] [] M := by
  refine x_aload_n rfl rfl ?_
  refine x_aload_n rfl rfl ?_
  exact x_calli (args := [.inr (.inr 22), .inr (.inr x2)]) rfl rfl rfl k
theorem uX7_goOn_55 {d : Nat} {Q : Int → yM → Prop} {M : yM} {x1 : Int} {x2 : Nat} {x3 : Int} {s0 : Int} (h1 : -2147483648 ≤ s0 ∧ s0 < 2147483648) (kt : s0 = 0 → XW kX7_goOn d (some .boolean) (wQi Q) 68 [some (.inr (.inr 22)), some (.inl x1), some (.inr (.inr x2)), some (.inl x3), none, none] [] M) (kf : s0 ≠ 0 → XW kX7_goOn d (some .boolean) (wQi Q) 58 [some (.inr (.inr 22)), some (.inl x1), some (.inr (.inr x2)), some (.inl x3), none, none] [] M) : XW kX7_goOn d (some .boolean) (wQi Q) 55 [some (.inr (.inr 22)), some (.inl x1), some (.inr (.inr x2)), some (.inl x3), none, none] [.inl s0] M := by
  exact x_ifeq rfl h1 kt kf
theorem uX7_goOn_58 {d : Nat} {Q : Int → yM → Prop} {M : yM} {x1 : Int} {x2 : Nat} {x3 : Int} (k : ∀ M', M' = (put M 22 8 ((ld M 22 8) + 1)) → XW kX7_goOn d (some .boolean) (wQi Q) 68 [some (.inr (.inr 22)), some (.inl x1), some (.inr (.inr x2)), some (.inl x3), none, none] [] M') : XW kX7_goOn d (some .boolean) (wQi Q) 58 [some (.inr (.inr 22)), some (.inl x1), some (.inr (.inr x2)), some (.inl x3), none, none] [] M := by
  refine x_aload_n rfl rfl ?_
  refine x_dupa rfl ?_
  refine x_getI rfl sh22 rfl ?_
  refine x_iconst 1 rfl (by decide) ?_
  refine x_iadd rfl ?_
  refine x_putI rfl rfl sh22 rfl ?_
  exact k _ rfl
theorem uX7_goOn_68 {d : Nat} {Q : Int → yM → Prop} {M : yM} {x1 : Int} {x2 : Nat} {x3 : Int} (kt : (ld M 22 7) < (ld M 22 9) → XW kX7_goOn d (some .boolean) (wQi Q) 83 [some (.inr (.inr 22)), some (.inl x1), some (.inr (.inr x2)), some (.inl x3), none, none] [] M) (kf : (ld M 22 7) ≥ (ld M 22 9) → XW kX7_goOn d (some .boolean) (wQi Q) 79 [some (.inr (.inr 22)), some (.inl x1), some (.inr (.inr x2)), some (.inl x3), none, none] [] M) : XW kX7_goOn d (some .boolean) (wQi Q) 68 [some (.inr (.inr 22)), some (.inl x1), some (.inr (.inr x2)), some (.inl x3), none, none] [] M := by
  refine x_aload_n rfl rfl ?_
  refine x_getI rfl sh22 rfl ?_
  refine x_aload_n rfl rfl ?_
  refine x_getI rfl sh22 rfl ?_
  exact x_icmplt rfl (rng_ld _ _ _) (rng_ld _ _ _) kt kf
theorem uX7_goOn_79 {d : Nat} {Q : Int → yM → Prop} {M : yM} {x1 : Int} {x2 : Nat} {x3 : Int} (k : XW kX7_goOn d (some .boolean) (wQi Q) 84 [some (.inr (.inr 22)), some (.inl x1), some (.inr (.inr x2)), some (.inl x3), none, none] [.inl 1] M) : XW kX7_goOn d (some .boolean) (wQi Q) 79 [some (.inr (.inr 22)), some (.inl x1), some (.inr (.inr x2)), some (.inl x3), none, none] [] M := by
  refine x_iconst 1 rfl (by decide) ?_
  exact x_goto rfl k
theorem uX7_goOn_83 {d : Nat} {Q : Int → yM → Prop} {M : yM} {x1 : Int} {x2 : Nat} {x3 : Int} (k : XW kX7_goOn d (some .boolean) (wQi Q) 84 [some (.inr (.inr 22)), some (.inl x1), some (.inr (.inr x2)), some (.inl x3), none, none] [.inl 0] M) : XW kX7_goOn d (some .boolean) (wQi Q) 83 [some (.inr (.inr 22)), some (.inl x1), some (.inr (.inr x2)), some (.inl x3), none, none] [] M := by
  refine x_iconst 0 rfl (by decide) ?_
  exact k
theorem uX7_goOn_84 {d : Nat} {Q : Int → yM → Prop} {M : yM} {x1 : Int} {x2 : Nat} {x3 : Int} {s0 : Int} (h1 : s0 = 0 ∨ s0 = 1) (k : Q s0 M) : XW kX7_goOn d (some .boolean) (wQi Q) 84 [some (.inr (.inr 22)), some (.inl x1), some (.inr (.inr x2)), some (.inl x3), none, none] [.inl s0] M := by
  exact x_zreturn rfl h1 k
theorem uX7_goOn_85 {d : Nat} {Q : Int → yM → Prop} {M : yM} {x1 : Int} {x2 : Nat} {x3 : Int} (h1 : 0 ≤ (x1 + 1) ∧ (x1 + 1) < 29) (k : XW kX7_goOn d (some .boolean) (wQi Q) 98 [some (.inr (.inr 22)), some (.inl x1), some (.inr (.inr x2)), some (.inl x3), some (.inr (.inr (24 + ((x1 + 1)).toNat))), some (.inl 0)] [] M) : XW kX7_goOn d (some .boolean) (wQi Q) 85 [some (.inr (.inr 22)), some (.inl x1), some (.inr (.inr x2)), some (.inl x3), none, none] [] M := by
  refine x_aload_n rfl rfl ?_
  refine x_getR rfl sh22 rfl ?_
  refine x_iload_n rfl rfl ?_
  refine x_iconst 1 rfl (by decide) ?_
  refine x_iadd rfl ?_
  refine x_aaload rfl ⟨sh23, Nat.le_of_ble_eq_true rfl⟩ (by decide) h1 (yref23 h1) ?_
  refine x_astore rfl (Nat.le_of_ble_eq_true rfl) rfl ?_
  refine x_iconst 0 rfl (by decide) ?_
  refine x_istore rfl (Nat.le_of_ble_eq_true rfl) rfl ?_
  exact k
theorem uX7_goOn_98 {d : Nat} {Q : Int → yM → Prop} {M : yM} {x1 : Int} {x2 : Nat} {x3 : Int} {x4 : Nat} {x5 : Int} (h1 : -2147483648 ≤ x5 ∧ x5 < 2147483648) (kt : x5 ≥ 8 → XW kX7_goOn d (some .boolean) (wQi Q) 178 [some (.inr (.inr 22)), some (.inl x1), some (.inr (.inr x2)), some (.inl x3), some (.inr (.inr x4)), some (.inl x5)] [] M) (kf : x5 < 8 → XW kX7_goOn d (some .boolean) (wQi Q) 105 [some (.inr (.inr 22)), some (.inl x1), some (.inr (.inr x2)), some (.inl x3), some (.inr (.inr x4)), some (.inl x5)] [] M) : XW kX7_goOn d (some .boolean) (wQi Q) 98 [some (.inr (.inr 22)), some (.inl x1), some (.inr (.inr x2)), some (.inl x3), some (.inr (.inr x4)), some (.inl x5)] [] M := by
  refine x_iload rfl rfl ?_
  refine x_bipush 8 rfl (by decide) ?_
  exact x_icmpge rfl h1 (by decide) kt kf
theorem uX7_goOn_105 {d : Nat} {Q : Int → yM → Prop} {M : yM} {x1 : Int} {x2 : Nat} {x3 : Int} {x4 : Nat} {x5 : Int} (h1 : arrSh x2 64) (h2 : 0 ≤ x3 ∧ x3 < 64) (kt : (yand (yshr (ld M x2 x3) x5) 1) ≠ 0 → XW kX7_goOn d (some .boolean) (wQi Q) 119 [some (.inr (.inr 22)), some (.inl x1), some (.inr (.inr x2)), some (.inl x3), some (.inr (.inr x4)), some (.inl x5)] [] M) (kf : (yand (yshr (ld M x2 x3) x5) 1) = 0 → XW kX7_goOn d (some .boolean) (wQi Q) 116 [some (.inr (.inr 22)), some (.inl x1), some (.inr (.inr x2)), some (.inl x3), some (.inr (.inr x4)), some (.inl x5)] [] M) : XW kX7_goOn d (some .boolean) (wQi Q) 105 [some (.inr (.inr 22)), some (.inl x1), some (.inr (.inr x2)), some (.inl x3), some (.inr (.inr x4)), some (.inl x5)] [] M := by
  refine x_aload_n rfl rfl ?_
  refine x_iload_n rfl rfl ?_
  refine x_iaload rfl h1 h2 ?_
  refine x_iload rfl rfl ?_
  refine x_ishr rfl ?_
  refine x_iconst 1 rfl (by decide) ?_
  refine x_iand rfl ?_
  exact x_ifne rfl (rng_yand _ _) kt kf
theorem uX7_goOn_116 {d : Nat} {Q : Int → yM → Prop} {M : yM} {x1 : Int} {x2 : Nat} {x3 : Int} {x4 : Nat} {x5 : Int} (k : XW kX7_goOn d (some .boolean) (wQi Q) 172 [some (.inr (.inr 22)), some (.inl x1), some (.inr (.inr x2)), some (.inl x3), some (.inr (.inr x4)), some (.inl x5)] [] M) : XW kX7_goOn d (some .boolean) (wQi Q) 116 [some (.inr (.inr 22)), some (.inl x1), some (.inr (.inr x2)), some (.inl x3), some (.inr (.inr x4)), some (.inl x5)] [] M := by
  exact x_goto rfl k
theorem uX7_goOn_119 {d : Nat} {Q : Int → yM → Prop} {M : yM} {x1 : Int} {x2 : Nat} {x3 : Int} {x4 : Nat} {x5 : Int} (h1 : arrSh x2 64) (h2 : arrSh x4 64) (k : ∀ M', M' = (cpy M x2 x4 0 0 64) → XW kX7_goOn d (some .boolean) (wQi Q) 129 [some (.inr (.inr 22)), some (.inl x1), some (.inr (.inr x2)), some (.inl x3), some (.inr (.inr x4)), some (.inl x5)] [] M') : XW kX7_goOn d (some .boolean) (wQi Q) 119 [some (.inr (.inr 22)), some (.inl x1), some (.inr (.inr x2)), some (.inl x3), some (.inr (.inr x4)), some (.inl x5)] [] M := by
  refine x_aload_n rfl rfl ?_
  refine x_iconst 0 rfl (by decide) ?_
  refine x_aload rfl rfl ?_
  refine x_iconst 0 rfl (by decide) ?_
  refine x_bipush 64 rfl (by decide) ?_
  refine x_cpy rfl h1 h2 (by decide) (Nat.le_of_ble_eq_true rfl) ?_
  exact k _ rfl
theorem uX7_goOn_129 {d : Nat} {Q : Int → yM → Prop} {M : yM} {x1 : Int} {x2 : Nat} {x3 : Int} {x4 : Nat} {x5 : Int} (k : XCv d 58 [.inr (.inr 21), .inr (.inr x4), .inl x3, .inl x5] M (fun M' => XW kX7_goOn (d + 1) (some .boolean) (wQi Q) 141 [some (.inr (.inr 22)), some (.inl x1), some (.inr (.inr x2)), some (.inl x3), some (.inr (.inr x4)), some (.inl x5)] [] M')) : XW kX7_goOn (d + 1) (some .boolean) (wQi Q) 129 [some (.inr (.inr 22)), some (.inl x1), some (.inr (.inr x2)), some (.inl x3), some (.inr (.inr x4)), some (.inl x5)] [] M := by
  refine x_aload_n rfl rfl ?_
  refine x_getR rfl sh22 rfl ?_
  refine x_aload rfl rfl ?_
  refine x_iload_n rfl rfl ?_
  refine x_iload rfl rfl ?_
  exact x_callv (args := [.inr (.inr 21), .inr (.inr x4), .inl x3, .inl x5]) rfl rfl rfl k
theorem uX7_goOn_141 {d : Nat} {Q : Int → yM → Prop} {M : yM} {x1 : Int} {x2 : Nat} {x3 : Int} {x4 : Nat} {x5 : Int} (k : XCi d 57 [.inr (.inr 21), .inr (.inr x4), .inl (ld M 22 6), .inr (.inl (zshl 1 x3))] M (fun v M' => XW kX7_goOn (d + 1) (some .boolean) (wQi Q) 157 [some (.inr (.inr 22)), some (.inl x1), some (.inr (.inr x2)), some (.inl x3), some (.inr (.inr x4)), some (.inl x5)] [.inl v] M')) : XW kX7_goOn (d + 1) (some .boolean) (wQi Q) 141 [some (.inr (.inr 22)), some (.inl x1), some (.inr (.inr x2)), some (.inl x3), some (.inr (.inr x4)), some (.inl x5)] [] M := by
  refine x_aload_n rfl rfl ?_
  refine x_getR rfl sh22 rfl ?_
  refine x_aload rfl rfl ?_
  refine x_aload_n rfl rfl ?_
  refine x_getI rfl sh22 rfl ?_
  refine x_lconst 1 rfl (by decide) ?_
  refine x_iload_n rfl rfl ?_
  refine x_lshl rfl ?_
  exact x_calli (args := [.inr (.inr 21), .inr (.inr x4), .inl (ld M 22 6), .inr (.inl (zshl 1 x3))]) rfl rfl rfl k
theorem uX7_goOn_157 {d : Nat} {Q : Int → yM → Prop} {M : yM} {x1 : Int} {x2 : Nat} {x3 : Int} {x4 : Nat} {x5 : Int} {s0 : Int} (h1 : -2147483648 ≤ s0 ∧ s0 < 2147483648) (kt : s0 = 0 → XW kX7_goOn d (some .boolean) (wQi Q) 172 [some (.inr (.inr 22)), some (.inl x1), some (.inr (.inr x2)), some (.inl x3), some (.inr (.inr x4)), some (.inl x5)] [] M) (kf : s0 ≠ 0 → XW kX7_goOn d (some .boolean) (wQi Q) 160 [some (.inr (.inr 22)), some (.inl x1), some (.inr (.inr x2)), some (.inl x3), some (.inr (.inr x4)), some (.inl x5)] [] M) : XW kX7_goOn d (some .boolean) (wQi Q) 157 [some (.inr (.inr 22)), some (.inl x1), some (.inr (.inr x2)), some (.inl x3), some (.inr (.inr x4)), some (.inl x5)] [.inl s0] M := by
  exact x_ifeq rfl h1 kt kf
theorem uX7_goOn_160 {d : Nat} {Q : Int → yM → Prop} {M : yM} {x1 : Int} {x2 : Nat} {x3 : Int} {x4 : Nat} {x5 : Int} (k : XCi d 49 [.inr (.inr 22), .inl (x1 + 1)] M (fun v M' => XW kX7_goOn (d + 1) (some .boolean) (wQi Q) 167 [some (.inr (.inr 22)), some (.inl x1), some (.inr (.inr x2)), some (.inl x3), some (.inr (.inr x4)), some (.inl x5)] [.inl v] M')) : XW kX7_goOn (d + 1) (some .boolean) (wQi Q) 160 [some (.inr (.inr 22)), some (.inl x1), some (.inr (.inr x2)), some (.inl x3), some (.inr (.inr x4)), some (.inl x5)] [] M := by
  refine x_aload_n rfl rfl ?_
  refine x_iload_n rfl rfl ?_
  refine x_iconst 1 rfl (by decide) ?_
  refine x_iadd rfl ?_
  exact x_calli (args := [.inr (.inr 22), .inl (x1 + 1)]) rfl rfl rfl k
theorem uX7_goOn_167 {d : Nat} {Q : Int → yM → Prop} {M : yM} {x1 : Int} {x2 : Nat} {x3 : Int} {x4 : Nat} {x5 : Int} {s0 : Int} (h1 : -2147483648 ≤ s0 ∧ s0 < 2147483648) (kt : s0 = 0 → XW kX7_goOn d (some .boolean) (wQi Q) 172 [some (.inr (.inr 22)), some (.inl x1), some (.inr (.inr x2)), some (.inl x3), some (.inr (.inr x4)), some (.inl x5)] [] M) (kf : s0 ≠ 0 → XW kX7_goOn d (some .boolean) (wQi Q) 170 [some (.inr (.inr 22)), some (.inl x1), some (.inr (.inr x2)), some (.inl x3), some (.inr (.inr x4)), some (.inl x5)] [] M) : XW kX7_goOn d (some .boolean) (wQi Q) 167 [some (.inr (.inr 22)), some (.inl x1), some (.inr (.inr x2)), some (.inl x3), some (.inr (.inr x4)), some (.inl x5)] [.inl s0] M := by
  exact x_ifeq rfl h1 kt kf
theorem uX7_goOn_170 {d : Nat} {Q : Int → yM → Prop} {M : yM} {x1 : Int} {x2 : Nat} {x3 : Int} {x4 : Nat} {x5 : Int} (k : Q 1 M) : XW kX7_goOn d (some .boolean) (wQi Q) 170 [some (.inr (.inr 22)), some (.inl x1), some (.inr (.inr x2)), some (.inl x3), some (.inr (.inr x4)), some (.inl x5)] [] M := by
  refine x_iconst 1 rfl (by decide) ?_
  exact x_zreturn rfl (by decide) k
theorem uX7_goOn_172 {d : Nat} {Q : Int → yM → Prop} {M : yM} {x1 : Int} {x2 : Nat} {x3 : Int} {x4 : Nat} {x5 : Int} (k : XW kX7_goOn d (some .boolean) (wQi Q) 98 [some (.inr (.inr 22)), some (.inl x1), some (.inr (.inr x2)), some (.inl x3), some (.inr (.inr x4)), some (.inl (x5 + 1))] [] M) : XW kX7_goOn d (some .boolean) (wQi Q) 172 [some (.inr (.inr 22)), some (.inl x1), some (.inr (.inr x2)), some (.inl x3), some (.inr (.inr x4)), some (.inl x5)] [] M := by
  refine x_iinc 1 rfl (by decide) rfl rfl ?_
  exact x_goto rfl k
theorem uX7_goOn_178 {d : Nat} {Q : Int → yM → Prop} {M : yM} {x1 : Int} {x2 : Nat} {x3 : Int} {x4 : Nat} {x5 : Int} (k : Q 0 M) : XW kX7_goOn d (some .boolean) (wQi Q) 178 [some (.inr (.inr 22)), some (.inl x1), some (.inr (.inr x2)), some (.inl x3), some (.inr (.inr x4)), some (.inl x5)] [] M := by
  refine x_iconst 0 rfl (by decide) ?_
  exact x_zreturn rfl (by decide) k
theorem eX7_narrowestOpen {d : Nat} {Q : Int → yM → Prop} {M : yM} {x1 : Nat}  (h : XW kX7_narrowestOpen d (some .int) (wQi Q) 0 [some (.inr (.inr 22)), some (.inr (.inr x1)), none, none, none, none, none, none] [] M) : XCi d 50 [.inr (.inr 22), .inr (.inr x1)] M Q :=
  XC.ofW (Mm := (yX7_narrowestOpen, cX7_narrowestOpen, 8, (some .int), 8, kX7_narrowestOpen)) rfl (rcv_ok sh22) rfl rfl h
theorem uX7_narrowestOpen_0 {d : Nat} {Q : Int → yM → Prop} {M : yM} {x1 : Nat} (k : XCi d 51 [.inr (.inr 22), .inr (.inr x1)] M (fun v M' => XW kX7_narrowestOpen (d + 1) (some .int) (wQi Q) 5 [some (.inr (.inr 22)), some (.inr (.inr x1)), none, none, none, none, none, none] [.inl v] M')) : XW kX7_narrowestOpen (d + 1) (some .int) (wQi Q) 0 [some (.inr (.inr 22)), some (.inr (.inr x1)), none, none, none, none, none, none] [] M := by
  refine x_aload_n rfl rfl ?_
  refine x_aload_n rfl rfl ?_
  exact x_calli (args := [.inr (.inr 22), .inr (.inr x1)]) rfl rfl rfl k
theorem uX7_narrowestOpen_5 {d : Nat} {Q : Int → yM → Prop} {M : yM} {x1 : Nat} {s0 : Int} (k : XW kX7_narrowestOpen d (some .int) (wQi Q) 15 [some (.inr (.inr 22)), some (.inr (.inr x1)), some (.inl s0), some (.inl (-1)), some (.inl 9), some (.inl 0), none, none] [] M) : XW kX7_narrowestOpen d (some .int) (wQi Q) 5 [some (.inr (.inr 22)), some (.inr (.inr x1)), none, none, none, none, none, none] [.inl s0] M := by
  refine x_istore_n rfl (Nat.le_of_ble_eq_true rfl) rfl ?_
  refine x_iconst (-1) rfl (by decide) ?_
  refine x_istore_n rfl (Nat.le_of_ble_eq_true rfl) rfl ?_
  refine x_bipush 9 rfl (by decide) ?_
  refine x_istore rfl (Nat.le_of_ble_eq_true rfl) rfl ?_
  refine x_iconst 0 rfl (by decide) ?_
  refine x_istore rfl (Nat.le_of_ble_eq_true rfl) rfl ?_
  exact k
theorem uX7_narrowestOpen_15 {d : Nat} {Q : Int → yM → Prop} {M : yM} {x1 : Nat} {x2 : Int} {x3 : Int} {x4 : Int} {x5 : Int} {wx6 : Option yV} {wx7 : Option yV} (h1 : -2147483648 ≤ x5 ∧ x5 < 2147483648) (kt : x5 ≥ (ld M 22 6) → XW kX7_narrowestOpen d (some .int) (wQi Q) 110 [some (.inr (.inr 22)), some (.inr (.inr x1)), some (.inl x2), some (.inl x3), some (.inl x4), some (.inl x5), wx6, wx7] [] M) (kf : x5 < (ld M 22 6) → XW kX7_narrowestOpen d (some .int) (wQi Q) 24 [some (.inr (.inr 22)), some (.inr (.inr x1)), some (.inl x2), some (.inl x3), some (.inl x4), some (.inl x5), wx6, wx7] [] M) : XW kX7_narrowestOpen d (some .int) (wQi Q) 15 [some (.inr (.inr 22)), some (.inr (.inr x1)), some (.inl x2), some (.inl x3), some (.inl x4), some (.inl x5), wx6, wx7] [] M := by
  refine x_iload rfl rfl ?_
  refine x_aload_n rfl rfl ?_
  refine x_getI rfl sh22 rfl ?_
  exact x_icmpge rfl h1 (rng_ld _ _ _) kt kf
theorem uX7_narrowestOpen_24 {d : Nat} {Q : Int → yM → Prop} {M : yM} {x1 : Nat} {x2 : Int} {x3 : Int} {x4 : Int} {x5 : Int} {wx6 : Option yV} {wx7 : Option yV} (h1 : -2147483648 ≤ x2 ∧ x2 < 2147483648) (kt : x2 = 0 → XW kX7_narrowestOpen d (some .int) (wQi Q) 110 [some (.inr (.inr 22)), some (.inr (.inr x1)), some (.inl x2), some (.inl x3), some (.inl x4), some (.inl x5), wx6, wx7] [] M) (kf : x2 ≠ 0 → XW kX7_narrowestOpen d (some .int) (wQi Q) 28 [some (.inr (.inr 22)), some (.inr (.inr x1)), some (.inl x2), some (.inl x3), some (.inl x4), some (.inl x5), wx6, wx7] [] M) : XW kX7_narrowestOpen d (some .int) (wQi Q) 24 [some (.inr (.inr 22)), some (.inr (.inr x1)), some (.inl x2), some (.inl x3), some (.inl x4), some (.inl x5), wx6, wx7] [] M := by
  refine x_iload_n rfl rfl ?_
  exact x_ifeq rfl h1 kt kf
theorem uX7_narrowestOpen_28 {d : Nat} {Q : Int → yM → Prop} {M : yM} {x1 : Nat} {x2 : Int} {x3 : Int} {x4 : Int} {x5 : Int} {wx6 : Option yV} {wx7 : Option yV} (k : XW kX7_narrowestOpen d (some .int) (wQi Q) 34 [some (.inr (.inr 22)), some (.inr (.inr x1)), some (.inl x2), some (.inl x3), some (.inl x4), some (.inl x5), some (.inl (x5 + 1)), wx7] [] M) : XW kX7_narrowestOpen d (some .int) (wQi Q) 28 [some (.inr (.inr 22)), some (.inr (.inr x1)), some (.inl x2), some (.inl x3), some (.inl x4), some (.inl x5), wx6, wx7] [] M := by
  refine x_iload rfl rfl ?_
  refine x_iconst 1 rfl (by decide) ?_
  refine x_iadd rfl ?_
  refine x_istore rfl (Nat.le_of_ble_eq_true rfl) rfl ?_
  exact k
theorem uX7_narrowestOpen_34 {d : Nat} {Q : Int → yM → Prop} {M : yM} {x1 : Nat} {x2 : Int} {x3 : Int} {x4 : Int} {x5 : Int} {x6 : Int} {wx7 : Option yV} (h1 : -2147483648 ≤ x6 ∧ x6 < 2147483648) (kt : x6 ≥ (ld M 22 6) → XW kX7_narrowestOpen d (some .int) (wQi Q) 104 [some (.inr (.inr 22)), some (.inr (.inr x1)), some (.inl x2), some (.inl x3), some (.inl x4), some (.inl x5), some (.inl x6), wx7] [] M) (kf : x6 < (ld M 22 6) → XW kX7_narrowestOpen d (some .int) (wQi Q) 43 [some (.inr (.inr 22)), some (.inr (.inr x1)), some (.inl x2), some (.inl x3), some (.inl x4), some (.inl x5), some (.inl x6), wx7] [] M) : XW kX7_narrowestOpen d (some .int) (wQi Q) 34 [some (.inr (.inr 22)), some (.inr (.inr x1)), some (.inl x2), some (.inl x3), some (.inl x4), some (.inl x5), some (.inl x6), wx7] [] M := by
  refine x_iload rfl rfl ?_
  refine x_aload_n rfl rfl ?_
  refine x_getI rfl sh22 rfl ?_
  exact x_icmpge rfl h1 (rng_ld _ _ _) kt kf
theorem uX7_narrowestOpen_43 {d : Nat} {Q : Int → yM → Prop} {M : yM} {x1 : Nat} {x2 : Int} {x3 : Int} {x4 : Int} {x5 : Int} {x6 : Int} {wx7 : Option yV} (h1 : arrSh x1 64) (h2 : 0 ≤ ((8 * x5) + x6) ∧ ((8 * x5) + x6) < 64) (k : XCi d 179 [.inl (ld M x1 ((8 * x5) + x6))] M (fun v M' => XW kX7_narrowestOpen (d + 1) (some .int) (wQi Q) 56 [some (.inr (.inr 22)), some (.inr (.inr x1)), some (.inl x2), some (.inl x3), some (.inl x4), some (.inl x5), some (.inl x6), wx7] [.inl v] M')) : XW kX7_narrowestOpen (d + 1) (some .int) (wQi Q) 43 [some (.inr (.inr 22)), some (.inr (.inr x1)), some (.inl x2), some (.inl x3), some (.inl x4), some (.inl x5), some (.inl x6), wx7] [] M := by
  refine x_aload_n rfl rfl ?_
  refine x_bipush 8 rfl (by decide) ?_
  refine x_iload rfl rfl ?_
  refine x_imul rfl ?_
  refine x_iload rfl rfl ?_
  refine x_iadd rfl ?_
  refine x_iaload rfl h1 h2 ?_
  exact x_calli (args := [.inl (ld M x1 ((8 * x5) + x6))]) rfl rfl rfl k
theorem uX7_narrowestOpen_56 {d : Nat} {Q : Int → yM → Prop} {M : yM} {x1 : Nat} {x2 : Int} {x3 : Int} {x4 : Int} {x5 : Int} {x6 : Int} {wx7 : Option yV} {s0 : Int} (h1 : -2147483648 ≤ s0 ∧ s0 < 2147483648) (kt : s0 ≤ 1 → XW kX7_narrowestOpen d (some .int) (wQi Q) 98 [some (.inr (.inr 22)), some (.inr (.inr x1)), some (.inl x2), some (.inl x3), some (.inl x4), some (.inl x5), some (.inl x6), some (.inl s0)] [] M) (kf : s0 > 1 → XW kX7_narrowestOpen d (some .int) (wQi Q) 64 [some (.inr (.inr 22)), some (.inr (.inr x1)), some (.inl x2), some (.inl x3), some (.inl x4), some (.inl x5), some (.inl x6), some (.inl s0)] [] M) : XW kX7_narrowestOpen d (some .int) (wQi Q) 56 [some (.inr (.inr 22)), some (.inr (.inr x1)), some (.inl x2), some (.inl x3), some (.inl x4), some (.inl x5), some (.inl x6), wx7] [.inl s0] M := by
  refine x_istore rfl (Nat.le_of_ble_eq_true rfl) rfl ?_
  refine x_iload rfl rfl ?_
  refine x_iconst 1 rfl (by decide) ?_
  exact x_icmple rfl h1 (by decide) kt kf
theorem uX7_narrowestOpen_64 {d : Nat} {Q : Int → yM → Prop} {M : yM} {x1 : Nat} {x2 : Int} {x3 : Int} {x4 : Int} {x5 : Int} {x6 : Int} {x7 : Int} (h1 : -2147483648 ≤ x7 ∧ x7 < 2147483648) (h2 : -2147483648 ≤ x4 ∧ x4 < 2147483648) (kt : x7 ≥ x4 → XW kX7_narrowestOpen d (some .int) (wQi Q) 98 [some (.inr (.inr 22)), some (.inr (.inr x1)), some (.inl x2), some (.inl x3), some (.inl x4), some (.inl x5), some (.inl x6), some (.inl x7)] [] M) (kf : x7 < x4 → XW kX7_narrowestOpen d (some .int) (wQi Q) 71 [some (.inr (.inr 22)), some (.inr (.inr x1)), some (.inl x2), some (.inl x3), some (.inl x4), some (.inl x5), some (.inl x6), some (.inl x7)] [] M) : XW kX7_narrowestOpen d (some .int) (wQi Q) 64 [some (.inr (.inr 22)), some (.inr (.inr x1)), some (.inl x2), some (.inl x3), some (.inl x4), some (.inl x5), some (.inl x6), some (.inl x7)] [] M := by
  refine x_iload rfl rfl ?_
  refine x_iload rfl rfl ?_
  exact x_icmpge rfl h1 h2 kt kf
theorem uX7_narrowestOpen_71 {d : Nat} {Q : Int → yM → Prop} {M : yM} {x1 : Nat} {x2 : Int} {x3 : Int} {x4 : Int} {x5 : Int} {x6 : Int} {x7 : Int} (kt : (yand (yor (yshl 1 x5) (yshl 1 x6)) x2) = 0 → XW kX7_narrowestOpen d (some .int) (wQi Q) 98 [some (.inr (.inr 22)), some (.inr (.inr x1)), some (.inl x2), some (.inl x3), some (.inl x4), some (.inl x5), some (.inl x6), some (.inl x7)] [] M) (kf : (yand (yor (yshl 1 x5) (yshl 1 x6)) x2) ≠ 0 → XW kX7_narrowestOpen d (some .int) (wQi Q) 85 [some (.inr (.inr 22)), some (.inr (.inr x1)), some (.inl x2), some (.inl x3), some (.inl x4), some (.inl x5), some (.inl x6), some (.inl x7)] [] M) : XW kX7_narrowestOpen d (some .int) (wQi Q) 71 [some (.inr (.inr 22)), some (.inr (.inr x1)), some (.inl x2), some (.inl x3), some (.inl x4), some (.inl x5), some (.inl x6), some (.inl x7)] [] M := by
  refine x_iconst 1 rfl (by decide) ?_
  refine x_iload rfl rfl ?_
  refine x_ishl rfl ?_
  refine x_iconst 1 rfl (by decide) ?_
  refine x_iload rfl rfl ?_
  refine x_ishl rfl ?_
  refine x_ior rfl ?_
  refine x_iload_n rfl rfl ?_
  refine x_iand rfl ?_
  exact x_ifeq rfl (rng_yand _ _) kt kf
theorem uX7_narrowestOpen_85 {d : Nat} {Q : Int → yM → Prop} {M : yM} {x1 : Nat} {x2 : Int} {x3 : Int} {x4 : Int} {x5 : Int} {x6 : Int} {x7 : Int} (k : XW kX7_narrowestOpen d (some .int) (wQi Q) 98 [some (.inr (.inr 22)), some (.inr (.inr x1)), some (.inl x2), some (.inl ((8 * x5) + x6)), some (.inl x7), some (.inl x5), some (.inl x6), some (.inl x7)] [] M) : XW kX7_narrowestOpen d (some .int) (wQi Q) 85 [some (.inr (.inr 22)), some (.inr (.inr x1)), some (.inl x2), some (.inl x3), some (.inl x4), some (.inl x5), some (.inl x6), some (.inl x7)] [] M := by
  refine x_bipush 8 rfl (by decide) ?_
  refine x_iload rfl rfl ?_
  refine x_imul rfl ?_
  refine x_iload rfl rfl ?_
  refine x_iadd rfl ?_
  refine x_istore_n rfl (Nat.le_of_ble_eq_true rfl) rfl ?_
  refine x_iload rfl rfl ?_
  refine x_istore rfl (Nat.le_of_ble_eq_true rfl) rfl ?_
  exact k
theorem uX7_narrowestOpen_98 {d : Nat} {Q : Int → yM → Prop} {M : yM} {x1 : Nat} {x2 : Int} {x3 : Int} {x4 : Int} {x5 : Int} {x6 : Int} {x7 : Int} (k : XW kX7_narrowestOpen d (some .int) (wQi Q) 34 [some (.inr (.inr 22)), some (.inr (.inr x1)), some (.inl x2), some (.inl x3), some (.inl x4), some (.inl x5), some (.inl (x6 + 1)), some (.inl x7)] [] M) : XW kX7_narrowestOpen d (some .int) (wQi Q) 98 [some (.inr (.inr 22)), some (.inr (.inr x1)), some (.inl x2), some (.inl x3), some (.inl x4), some (.inl x5), some (.inl x6), some (.inl x7)] [] M := by
  refine x_iinc 1 rfl (by decide) rfl rfl ?_
  exact x_goto rfl k
theorem uX7_narrowestOpen_104 {d : Nat} {Q : Int → yM → Prop} {M : yM} {x1 : Nat} {x2 : Int} {x3 : Int} {x4 : Int} {x5 : Int} {x6 : Int} {wx7 : Option yV} (k : XW kX7_narrowestOpen d (some .int) (wQi Q) 15 [some (.inr (.inr 22)), some (.inr (.inr x1)), some (.inl x2), some (.inl x3), some (.inl x4), some (.inl (x5 + 1)), some (.inl x6), wx7] [] M) : XW kX7_narrowestOpen d (some .int) (wQi Q) 104 [some (.inr (.inr 22)), some (.inr (.inr x1)), some (.inl x2), some (.inl x3), some (.inl x4), some (.inl x5), some (.inl x6), wx7] [] M := by
  refine x_iinc 1 rfl (by decide) rfl rfl ?_
  exact x_goto rfl k
theorem uX7_narrowestOpen_110 {d : Nat} {Q : Int → yM → Prop} {M : yM} {x1 : Nat} {x2 : Int} {x3 : Int} {x4 : Int} {x5 : Int} {wx6 : Option yV} {wx7 : Option yV} (k : Q x3 M) : XW kX7_narrowestOpen d (some .int) (wQi Q) 110 [some (.inr (.inr 22)), some (.inr (.inr x1)), some (.inl x2), some (.inl x3), some (.inl x4), some (.inl x5), wx6, wx7] [] M := by
  refine x_iload_n rfl rfl ?_
  exact x_ireturn rfl k
theorem eX7_pointsToTry {d : Nat} {Q : Int → yM → Prop} {M : yM} {x1 : Nat}  (h : XW kX7_pointsToTry d (some .int) (wQi Q) 0 [some (.inr (.inr 22)), some (.inr (.inr x1)), none, none, none, none, none, none] [] M) : XCi d 51 [.inr (.inr 22), .inr (.inr x1)] M Q :=
  XC.ofW (Mm := (yX7_pointsToTry, cX7_pointsToTry, 8, (some .int), 8, kX7_pointsToTry)) rfl (rcv_ok sh22) rfl rfl h
theorem uX7_pointsToTry_0 {d : Nat} {Q : Int → yM → Prop} {M : yM} {x1 : Nat} (k : XW kX7_pointsToTry d (some .int) (wQi Q) 7 [some (.inr (.inr 22)), some (.inr (.inr x1)), some (.inl 0), some (.inl 0), some (.inl 0), none, none, none] [] M) : XW kX7_pointsToTry d (some .int) (wQi Q) 0 [some (.inr (.inr 22)), some (.inr (.inr x1)), none, none, none, none, none, none] [] M := by
  refine x_iconst 0 rfl (by decide) ?_
  refine x_istore_n rfl (Nat.le_of_ble_eq_true rfl) rfl ?_
  refine x_iconst 0 rfl (by decide) ?_
  refine x_istore_n rfl (Nat.le_of_ble_eq_true rfl) rfl ?_
  refine x_iconst 0 rfl (by decide) ?_
  refine x_istore rfl (Nat.le_of_ble_eq_true rfl) rfl ?_
  exact k
theorem uX7_pointsToTry_7 {d : Nat} {Q : Int → yM → Prop} {M : yM} {x1 : Nat} {x2 : Int} {x3 : Int} {x4 : Int} {wx5 : Option yV} {wx6 : Option yV} {wx7 : Option yV} (h1 : -2147483648 ≤ x4 ∧ x4 < 2147483648) (kt : x4 ≥ (ld M 22 6) → XW kX7_pointsToTry d (some .int) (wQi Q) 88 [some (.inr (.inr 22)), some (.inr (.inr x1)), some (.inl x2), some (.inl x3), some (.inl x4), wx5, wx6, wx7] [] M) (kf : x4 < (ld M 22 6) → XW kX7_pointsToTry d (some .int) (wQi Q) 16 [some (.inr (.inr 22)), some (.inr (.inr x1)), some (.inl x2), some (.inl x3), some (.inl x4), wx5, wx6, wx7] [] M) : XW kX7_pointsToTry d (some .int) (wQi Q) 7 [some (.inr (.inr 22)), some (.inr (.inr x1)), some (.inl x2), some (.inl x3), some (.inl x4), wx5, wx6, wx7] [] M := by
  refine x_iload rfl rfl ?_
  refine x_aload_n rfl rfl ?_
  refine x_getI rfl sh22 rfl ?_
  exact x_icmpge rfl h1 (rng_ld _ _ _) kt kf
theorem uX7_pointsToTry_16 {d : Nat} {Q : Int → yM → Prop} {M : yM} {x1 : Nat} {x2 : Int} {x3 : Int} {x4 : Int} {wx5 : Option yV} {wx6 : Option yV} {wx7 : Option yV} (k : XW kX7_pointsToTry d (some .int) (wQi Q) 22 [some (.inr (.inr 22)), some (.inr (.inr x1)), some (.inl x2), some (.inl x3), some (.inl x4), some (.inl (x4 + 1)), wx6, wx7] [] M) : XW kX7_pointsToTry d (some .int) (wQi Q) 16 [some (.inr (.inr 22)), some (.inr (.inr x1)), some (.inl x2), some (.inl x3), some (.inl x4), wx5, wx6, wx7] [] M := by
  refine x_iload rfl rfl ?_
  refine x_iconst 1 rfl (by decide) ?_
  refine x_iadd rfl ?_
  refine x_istore rfl (Nat.le_of_ble_eq_true rfl) rfl ?_
  exact k
theorem uX7_pointsToTry_22 {d : Nat} {Q : Int → yM → Prop} {M : yM} {x1 : Nat} {x2 : Int} {x3 : Int} {x4 : Int} {x5 : Int} {wx6 : Option yV} {wx7 : Option yV} (h1 : -2147483648 ≤ x5 ∧ x5 < 2147483648) (kt : x5 ≥ (ld M 22 6) → XW kX7_pointsToTry d (some .int) (wQi Q) 82 [some (.inr (.inr 22)), some (.inr (.inr x1)), some (.inl x2), some (.inl x3), some (.inl x4), some (.inl x5), wx6, wx7] [] M) (kf : x5 < (ld M 22 6) → XW kX7_pointsToTry d (some .int) (wQi Q) 31 [some (.inr (.inr 22)), some (.inr (.inr x1)), some (.inl x2), some (.inl x3), some (.inl x4), some (.inl x5), wx6, wx7] [] M) : XW kX7_pointsToTry d (some .int) (wQi Q) 22 [some (.inr (.inr 22)), some (.inr (.inr x1)), some (.inl x2), some (.inl x3), some (.inl x4), some (.inl x5), wx6, wx7] [] M := by
  refine x_iload rfl rfl ?_
  refine x_aload_n rfl rfl ?_
  refine x_getI rfl sh22 rfl ?_
  exact x_icmpge rfl h1 (rng_ld _ _ _) kt kf
theorem uX7_pointsToTry_31 {d : Nat} {Q : Int → yM → Prop} {M : yM} {x1 : Nat} {x2 : Int} {x3 : Int} {x4 : Int} {x5 : Int} {wx6 : Option yV} {wx7 : Option yV} (h1 : arrSh x1 64) (h2 : 0 ≤ ((8 * x4) + x5) ∧ ((8 * x4) + x5) < 64) (kt : (yand (ld M x1 ((8 * x4) + x5)) ((ld M x1 ((8 * x4) + x5)) - 1)) = 0 → XW kX7_pointsToTry d (some .int) (wQi Q) 76 [some (.inr (.inr 22)), some (.inr (.inr x1)), some (.inl x2), some (.inl x3), some (.inl x4), some (.inl x5), some (.inl (ld M x1 ((8 * x4) + x5))), wx7] [] M) (kf : (yand (ld M x1 ((8 * x4) + x5)) ((ld M x1 ((8 * x4) + x5)) - 1)) ≠ 0 → XW kX7_pointsToTry d (some .int) (wQi Q) 53 [some (.inr (.inr 22)), some (.inr (.inr x1)), some (.inl x2), some (.inl x3), some (.inl x4), some (.inl x5), some (.inl (ld M x1 ((8 * x4) + x5))), wx7] [] M) : XW kX7_pointsToTry d (some .int) (wQi Q) 31 [some (.inr (.inr 22)), some (.inr (.inr x1)), some (.inl x2), some (.inl x3), some (.inl x4), some (.inl x5), wx6, wx7] [] M := by
  refine x_aload_n rfl rfl ?_
  refine x_bipush 8 rfl (by decide) ?_
  refine x_iload rfl rfl ?_
  refine x_imul rfl ?_
  refine x_iload rfl rfl ?_
  refine x_iadd rfl ?_
  refine x_iaload rfl h1 h2 ?_
  refine x_istore rfl (Nat.le_of_ble_eq_true rfl) rfl ?_
  refine x_iload rfl rfl ?_
  refine x_iload rfl rfl ?_
  refine x_iconst 1 rfl (by decide) ?_
  refine x_isub rfl ?_
  refine x_iand rfl ?_
  exact x_ifeq rfl (rng_yand _ _) kt kf
theorem uX7_pointsToTry_53 {d : Nat} {Q : Int → yM → Prop} {M : yM} {x1 : Nat} {x2 : Int} {x3 : Int} {x4 : Int} {x5 : Int} {x6 : Int} {wx7 : Option yV} (k : XW kX7_pointsToTry d (some .int) (wQi Q) 76 [some (.inr (.inr 22)), some (.inr (.inr x1)), some (.inl (yor x2 (yor (yshl 1 x4) (yshl 1 x5)))), some (.inl (yor x3 (yand x2 (yor (yshl 1 x4) (yshl 1 x5))))), some (.inl x4), some (.inl x5), some (.inl x6), some (.inl (yor (yshl 1 x4) (yshl 1 x5)))] [] M) : XW kX7_pointsToTry d (some .int) (wQi Q) 53 [some (.inr (.inr 22)), some (.inr (.inr x1)), some (.inl x2), some (.inl x3), some (.inl x4), some (.inl x5), some (.inl x6), wx7] [] M := by
  refine x_iconst 1 rfl (by decide) ?_
  refine x_iload rfl rfl ?_
  refine x_ishl rfl ?_
  refine x_iconst 1 rfl (by decide) ?_
  refine x_iload rfl rfl ?_
  refine x_ishl rfl ?_
  refine x_ior rfl ?_
  refine x_istore rfl (Nat.le_of_ble_eq_true rfl) rfl ?_
  refine x_iload_n rfl rfl ?_
  refine x_iload_n rfl rfl ?_
  refine x_iload rfl rfl ?_
  refine x_iand rfl ?_
  refine x_ior rfl ?_
  refine x_istore_n rfl (Nat.le_of_ble_eq_true rfl) rfl ?_
  refine x_iload_n rfl rfl ?_
  refine x_iload rfl rfl ?_
  refine x_ior rfl ?_
  refine x_istore_n rfl (Nat.le_of_ble_eq_true rfl) rfl ?_
  exact k
theorem uX7_pointsToTry_76 {d : Nat} {Q : Int → yM → Prop} {M : yM} {x1 : Nat} {x2 : Int} {x3 : Int} {x4 : Int} {x5 : Int} {x6 : Int} {wx7 : Option yV} (k : XW kX7_pointsToTry d (some .int) (wQi Q) 22 [some (.inr (.inr 22)), some (.inr (.inr x1)), some (.inl x2), some (.inl x3), some (.inl x4), some (.inl (x5 + 1)), some (.inl x6), wx7] [] M) : XW kX7_pointsToTry d (some .int) (wQi Q) 76 [some (.inr (.inr 22)), some (.inr (.inr x1)), some (.inl x2), some (.inl x3), some (.inl x4), some (.inl x5), some (.inl x6), wx7] [] M := by
  refine x_iinc 1 rfl (by decide) rfl rfl ?_
  exact x_goto rfl k
theorem uX7_pointsToTry_82 {d : Nat} {Q : Int → yM → Prop} {M : yM} {x1 : Nat} {x2 : Int} {x3 : Int} {x4 : Int} {x5 : Int} {wx6 : Option yV} {wx7 : Option yV} (k : XW kX7_pointsToTry d (some .int) (wQi Q) 7 [some (.inr (.inr 22)), some (.inr (.inr x1)), some (.inl x2), some (.inl x3), some (.inl (x4 + 1)), some (.inl x5), wx6, wx7] [] M) : XW kX7_pointsToTry d (some .int) (wQi Q) 82 [some (.inr (.inr 22)), some (.inr (.inr x1)), some (.inl x2), some (.inl x3), some (.inl x4), some (.inl x5), wx6, wx7] [] M := by
  refine x_iinc 1 rfl (by decide) rfl rfl ?_
  exact x_goto rfl k
theorem uX7_pointsToTry_88 {d : Nat} {Q : Int → yM → Prop} {M : yM} {x1 : Nat} {x2 : Int} {x3 : Int} {x4 : Int} {wx5 : Option yV} {wx6 : Option yV} {wx7 : Option yV} (kt : (ld M 22 10) = 0 → XW kX7_pointsToTry d (some .int) (wQi Q) 99 [some (.inr (.inr 22)), some (.inr (.inr x1)), some (.inl x2), some (.inl x3), some (.inl x4), wx5, wx6, wx7] [] M) (kf : (ld M 22 10) ≠ 0 → XW kX7_pointsToTry d (some .int) (wQi Q) 95 [some (.inr (.inr 22)), some (.inr (.inr x1)), some (.inl x2), some (.inl x3), some (.inl x4), wx5, wx6, wx7] [] M) : XW kX7_pointsToTry d (some .int) (wQi Q) 88 [some (.inr (.inr 22)), some (.inr (.inr x1)), some (.inl x2), some (.inl x3), some (.inl x4), wx5, wx6, wx7] [] M := by
  refine x_aload_n rfl rfl ?_
  refine x_getI rfl sh22 rfl ?_
  exact x_ifeq rfl (rng_ld _ _ _) kt kf
theorem uX7_pointsToTry_95 {d : Nat} {Q : Int → yM → Prop} {M : yM} {x1 : Nat} {x2 : Int} {x3 : Int} {x4 : Int} {wx5 : Option yV} {wx6 : Option yV} {wx7 : Option yV} (k : XW kX7_pointsToTry d (some .int) (wQi Q) 100 [some (.inr (.inr 22)), some (.inr (.inr x1)), some (.inl x2), some (.inl x3), some (.inl x4), wx5, wx6, wx7] [.inl x2] M) : XW kX7_pointsToTry d (some .int) (wQi Q) 95 [some (.inr (.inr 22)), some (.inr (.inr x1)), some (.inl x2), some (.inl x3), some (.inl x4), wx5, wx6, wx7] [] M := by
  refine x_iload_n rfl rfl ?_
  exact x_goto rfl k
theorem uX7_pointsToTry_99 {d : Nat} {Q : Int → yM → Prop} {M : yM} {x1 : Nat} {x2 : Int} {x3 : Int} {x4 : Int} {wx5 : Option yV} {wx6 : Option yV} {wx7 : Option yV} (k : XW kX7_pointsToTry d (some .int) (wQi Q) 100 [some (.inr (.inr 22)), some (.inr (.inr x1)), some (.inl x2), some (.inl x3), some (.inl x4), wx5, wx6, wx7] [.inl x3] M) : XW kX7_pointsToTry d (some .int) (wQi Q) 99 [some (.inr (.inr 22)), some (.inr (.inr x1)), some (.inl x2), some (.inl x3), some (.inl x4), wx5, wx6, wx7] [] M := by
  refine x_iload_n rfl rfl ?_
  exact k
theorem uX7_pointsToTry_100 {d : Nat} {Q : Int → yM → Prop} {M : yM} {x1 : Nat} {x2 : Int} {x3 : Int} {x4 : Int} {wx5 : Option yV} {wx6 : Option yV} {wx7 : Option yV} {s0 : Int} (k : Q s0 M) : XW kX7_pointsToTry d (some .int) (wQi Q) 100 [some (.inr (.inr 22)), some (.inr (.inr x1)), some (.inl x2), some (.inl x3), some (.inl x4), wx5, wx6, wx7] [.inl s0] M := by
  exact x_ireturn rfl k
theorem eX7_takeBox {d : Nat} {Q : yM → Prop} {M : yM} {x1 : Nat}  (h : XW kX7_takeBox d none (wQv Q) 0 [some (.inr (.inr 22)), some (.inr (.inr x1)), none, none, none, none] [] M) : XCv d 52 [.inr (.inr 22), .inr (.inr x1)] M Q :=
  XC.ofW (Mm := (yX7_takeBox, cX7_takeBox, 6, none, 8, kX7_takeBox)) rfl (rcv_ok sh22) rfl rfl h
theorem uX7_takeBox_0 {d : Nat} {Q : yM → Prop} {M : yM} {x1 : Nat} (k : XW kX7_takeBox d none (wQv Q) 4 [some (.inr (.inr 22)), some (.inr (.inr x1)), some (.inl 1), some (.inl 0), none, none] [] M) : XW kX7_takeBox d none (wQv Q) 0 [some (.inr (.inr 22)), some (.inr (.inr x1)), none, none, none, none] [] M := by
  refine x_iconst 1 rfl (by decide) ?_
  refine x_istore_n rfl (Nat.le_of_ble_eq_true rfl) rfl ?_
  refine x_iconst 0 rfl (by decide) ?_
  refine x_istore_n rfl (Nat.le_of_ble_eq_true rfl) rfl ?_
  exact k
theorem uX7_takeBox_4 {d : Nat} {Q : yM → Prop} {M : yM} {x1 : Nat} {x2 : Int} {x3 : Int} {wx4 : Option yV} {wx5 : Option yV} (h1 : -2147483648 ≤ x3 ∧ x3 < 2147483648) (kt : x3 ≥ (ld M 22 6) → XW kX7_takeBox d none (wQv Q) 108 [some (.inr (.inr 22)), some (.inr (.inr x1)), some (.inl x2), some (.inl x3), wx4, wx5] [] M) (kf : x3 < (ld M 22 6) → XW kX7_takeBox d none (wQv Q) 12 [some (.inr (.inr 22)), some (.inr (.inr x1)), some (.inl x2), some (.inl x3), wx4, wx5] [] M) : XW kX7_takeBox d none (wQv Q) 4 [some (.inr (.inr 22)), some (.inr (.inr x1)), some (.inl x2), some (.inl x3), wx4, wx5] [] M := by
  refine x_iload_n rfl rfl ?_
  refine x_aload_n rfl rfl ?_
  refine x_getI rfl sh22 rfl ?_
  exact x_icmpge rfl h1 (rng_ld _ _ _) kt kf
theorem uX7_takeBox_12 {d : Nat} {Q : yM → Prop} {M : yM} {x1 : Nat} {x2 : Int} {x3 : Int} {wx4 : Option yV} {wx5 : Option yV} (h1 : 0 ≤ (9 * x3) ∧ (9 * x3) < 64) (k : ∀ M', M' = (put M 53 (9 * x3) 1) → XW kX7_takeBox d none (wQv Q) 22 [some (.inr (.inr 22)), some (.inr (.inr x1)), some (.inl x2), some (.inl x3), wx4, wx5] [] M') : XW kX7_takeBox d none (wQv Q) 12 [some (.inr (.inr 22)), some (.inr (.inr x1)), some (.inl x2), some (.inl x3), wx4, wx5] [] M := by
  refine x_aload_n rfl rfl ?_
  refine x_getR rfl sh22 rfl ?_
  refine x_bipush 9 rfl (by decide) ?_
  refine x_iload_n rfl rfl ?_
  refine x_imul rfl ?_
  refine x_iconst 1 rfl (by decide) ?_
  refine x_iastore rfl ⟨sh53, Nat.le_of_ble_eq_true rfl⟩ h1  ?_
  exact k _ rfl
theorem uX7_takeBox_22 {d : Nat} {Q : yM → Prop} {M : yM} {x1 : Nat} {x2 : Int} {x3 : Int} {wx4 : Option yV} {wx5 : Option yV} (k : XW kX7_takeBox d none (wQv Q) 27 [some (.inr (.inr 22)), some (.inr (.inr x1)), some (.inl x2), some (.inl x3), some (.inl (x3 + 1)), wx5] [] M) : XW kX7_takeBox d none (wQv Q) 22 [some (.inr (.inr 22)), some (.inr (.inr x1)), some (.inl x2), some (.inl x3), wx4, wx5] [] M := by
  refine x_iload_n rfl rfl ?_
  refine x_iconst 1 rfl (by decide) ?_
  refine x_iadd rfl ?_
  refine x_istore rfl (Nat.le_of_ble_eq_true rfl) rfl ?_
  exact k
theorem uX7_takeBox_27 {d : Nat} {Q : yM → Prop} {M : yM} {x1 : Nat} {x2 : Int} {x3 : Int} {x4 : Int} {wx5 : Option yV} (h1 : -2147483648 ≤ x4 ∧ x4 < 2147483648) (kt : x4 ≥ (ld M 22 6) → XW kX7_takeBox d none (wQv Q) 102 [some (.inr (.inr 22)), some (.inr (.inr x1)), some (.inl x2), some (.inl x3), some (.inl x4), wx5] [] M) (kf : x4 < (ld M 22 6) → XW kX7_takeBox d none (wQv Q) 36 [some (.inr (.inr 22)), some (.inr (.inr x1)), some (.inl x2), some (.inl x3), some (.inl x4), wx5] [] M) : XW kX7_takeBox d none (wQv Q) 27 [some (.inr (.inr 22)), some (.inr (.inr x1)), some (.inl x2), some (.inl x3), some (.inl x4), wx5] [] M := by
  refine x_iload rfl rfl ?_
  refine x_aload_n rfl rfl ?_
  refine x_getI rfl sh22 rfl ?_
  exact x_icmpge rfl h1 (rng_ld _ _ _) kt kf
theorem uX7_takeBox_36 {d : Nat} {Q : yM → Prop} {M : yM} {x1 : Nat} {x2 : Int} {x3 : Int} {x4 : Int} {wx5 : Option yV} (h1 : arrSh x1 64) (h2 : 0 ≤ ((8 * x3) + x4) ∧ ((8 * x3) + x4) < 64) (k : XCi d 179 [.inl (ld M x1 ((8 * x3) + x4))] M (fun v M' => XW kX7_takeBox (d + 1) none (wQv Q) 53 [some (.inr (.inr 22)), some (.inr (.inr x1)), some (.inl x2), some (.inl x3), some (.inl x4), some (.inl (ld M x1 ((8 * x3) + x4)))] [.inl v, .inl x2] M')) : XW kX7_takeBox (d + 1) none (wQv Q) 36 [some (.inr (.inr 22)), some (.inr (.inr x1)), some (.inl x2), some (.inl x3), some (.inl x4), wx5] [] M := by
  refine x_aload_n rfl rfl ?_
  refine x_bipush 8 rfl (by decide) ?_
  refine x_iload_n rfl rfl ?_
  refine x_imul rfl ?_
  refine x_iload rfl rfl ?_
  refine x_iadd rfl ?_
  refine x_iaload rfl h1 h2 ?_
  refine x_istore rfl (Nat.le_of_ble_eq_true rfl) rfl ?_
  refine x_iload_n rfl rfl ?_
  refine x_iload rfl rfl ?_
  exact x_calli (args := [.inl (ld M x1 ((8 * x3) + x4))]) rfl rfl rfl k
theorem uX7_takeBox_53 {d : Nat} {Q : yM → Prop} {M : yM} {x1 : Nat} {x2 : Int} {x3 : Int} {x4 : Int} {x5 : Int} {s0 : Int} {s1 : Int} (h1 : 0 ≤ ((8 * x3) + x4) ∧ ((8 * x3) + x4) < 64) (h2 : 0 ≤ ((8 * x3) + x4) ∧ ((8 * x3) + x4) < 64) (k : ∀ M', M' = (put M 53 ((8 * x3) + x4) (yor (ld M 53 ((8 * x3) + x4)) x5)) → XW kX7_takeBox d none (wQv Q) 72 [some (.inr (.inr 22)), some (.inr (.inr x1)), some (.inl (s1 * s0)), some (.inl x3), some (.inl x4), some (.inl x5)] [] M') : XW kX7_takeBox d none (wQv Q) 53 [some (.inr (.inr 22)), some (.inr (.inr x1)), some (.inl x2), some (.inl x3), some (.inl x4), some (.inl x5)] [.inl s0, .inl s1] M := by
  refine x_imul rfl ?_
  refine x_istore_n rfl (Nat.le_of_ble_eq_true rfl) rfl ?_
  refine x_aload_n rfl rfl ?_
  refine x_getR rfl sh22 rfl ?_
  refine x_bipush 8 rfl (by decide) ?_
  refine x_iload_n rfl rfl ?_
  refine x_imul rfl ?_
  refine x_iload rfl rfl ?_
  refine x_iadd rfl ?_
  refine x_dup2 rfl ?_
  refine x_iaload rfl ⟨sh53, Nat.le_of_ble_eq_true rfl⟩ h1 ?_
  refine x_iload rfl rfl ?_
  refine x_ior rfl ?_
  refine x_iastore rfl ⟨sh53, Nat.le_of_ble_eq_true rfl⟩ h2  ?_
  exact k _ rfl
theorem uX7_takeBox_72 {d : Nat} {Q : yM → Prop} {M : yM} {x1 : Nat} {x2 : Int} {x3 : Int} {x4 : Int} {x5 : Int} (h1 : 0 ≤ ((8 * x4) + x3) ∧ ((8 * x4) + x3) < 64) (h2 : arrSh x1 64) (h3 : 0 ≤ ((8 * x4) + x3) ∧ ((8 * x4) + x3) < 64) (h4 : 0 ≤ ((8 * x4) + x3) ∧ ((8 * x4) + x3) < 64) (k : ∀ M', M' = (put M 53 ((8 * x4) + x3) (yor (ld M 53 ((8 * x4) + x3)) (ld M x1 ((8 * x4) + x3)))) → XW kX7_takeBox d none (wQv Q) 96 [some (.inr (.inr 22)), some (.inr (.inr x1)), some (.inl x2), some (.inl x3), some (.inl x4), some (.inl x5)] [] M') : XW kX7_takeBox d none (wQv Q) 72 [some (.inr (.inr 22)), some (.inr (.inr x1)), some (.inl x2), some (.inl x3), some (.inl x4), some (.inl x5)] [] M := by
  refine x_aload_n rfl rfl ?_
  refine x_getR rfl sh22 rfl ?_
  refine x_bipush 8 rfl (by decide) ?_
  refine x_iload rfl rfl ?_
  refine x_imul rfl ?_
  refine x_iload_n rfl rfl ?_
  refine x_iadd rfl ?_
  refine x_dup2 rfl ?_
  refine x_iaload rfl ⟨sh53, Nat.le_of_ble_eq_true rfl⟩ h1 ?_
  refine x_aload_n rfl rfl ?_
  refine x_bipush 8 rfl (by decide) ?_
  refine x_iload rfl rfl ?_
  refine x_imul rfl ?_
  refine x_iload_n rfl rfl ?_
  refine x_iadd rfl ?_
  refine x_iaload rfl h2 h3 ?_
  refine x_ior rfl ?_
  refine x_iastore rfl ⟨sh53, Nat.le_of_ble_eq_true rfl⟩ h4  ?_
  exact k _ rfl
theorem uX7_takeBox_96 {d : Nat} {Q : yM → Prop} {M : yM} {x1 : Nat} {x2 : Int} {x3 : Int} {x4 : Int} {x5 : Int} (k : XW kX7_takeBox d none (wQv Q) 27 [some (.inr (.inr 22)), some (.inr (.inr x1)), some (.inl x2), some (.inl x3), some (.inl (x4 + 1)), some (.inl x5)] [] M) : XW kX7_takeBox d none (wQv Q) 96 [some (.inr (.inr 22)), some (.inr (.inr x1)), some (.inl x2), some (.inl x3), some (.inl x4), some (.inl x5)] [] M := by
  refine x_iinc 1 rfl (by decide) rfl rfl ?_
  exact x_goto rfl k
theorem uX7_takeBox_102 {d : Nat} {Q : yM → Prop} {M : yM} {x1 : Nat} {x2 : Int} {x3 : Int} {x4 : Int} {wx5 : Option yV} (k : XW kX7_takeBox d none (wQv Q) 4 [some (.inr (.inr 22)), some (.inr (.inr x1)), some (.inl x2), some (.inl (x3 + 1)), some (.inl x4), wx5] [] M) : XW kX7_takeBox d none (wQv Q) 102 [some (.inr (.inr 22)), some (.inr (.inr x1)), some (.inl x2), some (.inl x3), some (.inl x4), wx5] [] M := by
  refine x_iinc 1 rfl (by decide) rfl rfl ?_
  exact x_goto rfl k
theorem uX7_takeBox_108 {d : Nat} {Q : yM → Prop} {M : yM} {x1 : Nat} {x2 : Int} {x3 : Int} {wx4 : Option yV} {wx5 : Option yV} (k : ∀ M', M' = (put M 22 7 ((ld M 22 7) + x2)) → XW kX7_takeBox d none (wQv Q) 118 [some (.inr (.inr 22)), some (.inr (.inr x1)), some (.inl x2), some (.inl x3), wx4, wx5] [] M') : XW kX7_takeBox d none (wQv Q) 108 [some (.inr (.inr 22)), some (.inr (.inr x1)), some (.inl x2), some (.inl x3), wx4, wx5] [] M := by
  refine x_aload_n rfl rfl ?_
  refine x_dupa rfl ?_
  refine x_getI rfl sh22 rfl ?_
  refine x_iload_n rfl rfl ?_
  refine x_iadd rfl ?_
  refine x_putI rfl rfl sh22 rfl ?_
  exact k _ rfl
theorem uX7_takeBox_118 {d : Nat} {Q : yM → Prop} {M : yM} {x1 : Nat} {x2 : Int} {x3 : Int} {wx4 : Option yV} {wx5 : Option yV} (k : Q M) : XW kX7_takeBox d none (wQv Q) 118 [some (.inr (.inr 22)), some (.inr (.inr x1)), some (.inl x2), some (.inl x3), wx4, wx5] [] M := by
  exact x_return rfl k
theorem eX7_takeLowest {d : Nat} {Q : yM → Prop} {M : yM} {x1 : Nat}  (h : XW kX7_takeLowest d none (wQv Q) 0 [some (.inr (.inr 22)), some (.inr (.inr x1)), none, none] [] M) : XCv d 53 [.inr (.inr 22), .inr (.inr x1)] M Q :=
  XC.ofW (Mm := (yX7_takeLowest, cX7_takeLowest, 4, none, 8, kX7_takeLowest)) rfl (rcv_ok sh22) rfl rfl h
theorem uX7_takeLowest_0 {d : Nat} {Q : yM → Prop} {M : yM} {x1 : Nat} (h1 : arrSh x1 64) (k : ∀ M', M' = (cpy M x1 54 0 0 64) → XW kX7_takeLowest d none (wQv Q) 12 [some (.inr (.inr 22)), some (.inr (.inr x1)), none, none] [] M') : XW kX7_takeLowest d none (wQv Q) 0 [some (.inr (.inr 22)), some (.inr (.inr x1)), none, none] [] M := by
  refine x_aload_n rfl rfl ?_
  refine x_iconst 0 rfl (by decide) ?_
  refine x_aload_n rfl rfl ?_
  refine x_getR rfl sh22 rfl ?_
  refine x_iconst 0 rfl (by decide) ?_
  refine x_bipush 64 rfl (by decide) ?_
  refine x_cpy rfl h1 ⟨sh54, Nat.le_of_ble_eq_true rfl⟩ (by decide) (Nat.le_of_ble_eq_true rfl) ?_
  exact k _ rfl
theorem uX7_takeLowest_12 {d : Nat} {Q : yM → Prop} {M : yM} {x1 : Nat} (k : XW kX7_takeLowest d none (wQv Q) 14 [some (.inr (.inr 22)), some (.inr (.inr x1)), some (.inl 0), none] [] M) : XW kX7_takeLowest d none (wQv Q) 12 [some (.inr (.inr 22)), some (.inr (.inr x1)), none, none] [] M := by
  refine x_iconst 0 rfl (by decide) ?_
  refine x_istore_n rfl (Nat.le_of_ble_eq_true rfl) rfl ?_
  exact k
theorem uX7_takeLowest_14 {d : Nat} {Q : yM → Prop} {M : yM} {x1 : Nat} {x2 : Int} {wx3 : Option yV} (h1 : -2147483648 ≤ x2 ∧ x2 < 2147483648) (kt : x2 ≥ (ld M 22 6) → XW kX7_takeLowest d none (wQv Q) 74 [some (.inr (.inr 22)), some (.inr (.inr x1)), some (.inl x2), wx3] [] M) (kf : x2 < (ld M 22 6) → XW kX7_takeLowest d none (wQv Q) 22 [some (.inr (.inr 22)), some (.inr (.inr x1)), some (.inl x2), wx3] [] M) : XW kX7_takeLowest d none (wQv Q) 14 [some (.inr (.inr 22)), some (.inr (.inr x1)), some (.inl x2), wx3] [] M := by
  refine x_iload_n rfl rfl ?_
  refine x_aload_n rfl rfl ?_
  refine x_getI rfl sh22 rfl ?_
  exact x_icmpge rfl h1 (rng_ld _ _ _) kt kf
theorem uX7_takeLowest_22 {d : Nat} {Q : yM → Prop} {M : yM} {x1 : Nat} {x2 : Int} {wx3 : Option yV} (k : XW kX7_takeLowest d none (wQv Q) 26 [some (.inr (.inr 22)), some (.inr (.inr x1)), some (.inl x2), some (.inl (x2 + 1))] [] M) : XW kX7_takeLowest d none (wQv Q) 22 [some (.inr (.inr 22)), some (.inr (.inr x1)), some (.inl x2), wx3] [] M := by
  refine x_iload_n rfl rfl ?_
  refine x_iconst 1 rfl (by decide) ?_
  refine x_iadd rfl ?_
  refine x_istore_n rfl (Nat.le_of_ble_eq_true rfl) rfl ?_
  exact k
theorem uX7_takeLowest_26 {d : Nat} {Q : yM → Prop} {M : yM} {x1 : Nat} {x2 : Int} {x3 : Int} (h1 : -2147483648 ≤ x3 ∧ x3 < 2147483648) (kt : x3 ≥ (ld M 22 6) → XW kX7_takeLowest d none (wQv Q) 68 [some (.inr (.inr 22)), some (.inr (.inr x1)), some (.inl x2), some (.inl x3)] [] M) (kf : x3 < (ld M 22 6) → XW kX7_takeLowest d none (wQv Q) 34 [some (.inr (.inr 22)), some (.inr (.inr x1)), some (.inl x2), some (.inl x3)] [] M) : XW kX7_takeLowest d none (wQv Q) 26 [some (.inr (.inr 22)), some (.inr (.inr x1)), some (.inl x2), some (.inl x3)] [] M := by
  refine x_iload_n rfl rfl ?_
  refine x_aload_n rfl rfl ?_
  refine x_getI rfl sh22 rfl ?_
  exact x_icmpge rfl h1 (rng_ld _ _ _) kt kf
theorem uX7_takeLowest_34 {d : Nat} {Q : yM → Prop} {M : yM} {x1 : Nat} {x2 : Int} {x3 : Int} (h1 : arrSh x1 64) (h2 : 0 ≤ ((8 * x2) + x3) ∧ ((8 * x2) + x3) < 64) (k : XCi d 116 [.inl (ld M x1 ((8 * x2) + x3))] M (fun v M' => XW kX7_takeLowest (d + 1) none (wQv Q) 59 [some (.inr (.inr 22)), some (.inr (.inr x1)), some (.inl x2), some (.inl x3)] [.inl v, .inl ((8 * x2) + x3), .inr (.inr 54), .inr (.inr 21)] M')) : XW kX7_takeLowest (d + 1) none (wQv Q) 34 [some (.inr (.inr 22)), some (.inr (.inr x1)), some (.inl x2), some (.inl x3)] [] M := by
  refine x_aload_n rfl rfl ?_
  refine x_getR rfl sh22 rfl ?_
  refine x_aload_n rfl rfl ?_
  refine x_getR rfl sh22 rfl ?_
  refine x_bipush 8 rfl (by decide) ?_
  refine x_iload_n rfl rfl ?_
  refine x_imul rfl ?_
  refine x_iload_n rfl rfl ?_
  refine x_iadd rfl ?_
  refine x_aload_n rfl rfl ?_
  refine x_bipush 8 rfl (by decide) ?_
  refine x_iload_n rfl rfl ?_
  refine x_imul rfl ?_
  refine x_iload_n rfl rfl ?_
  refine x_iadd rfl ?_
  refine x_iaload rfl h1 h2 ?_
  exact x_calli (args := [.inl (ld M x1 ((8 * x2) + x3))]) rfl rfl rfl k
theorem uX7_takeLowest_59 {d : Nat} {Q : yM → Prop} {M : yM} {x1 : Nat} {x2 : Int} {x3 : Int} {s0 : Int} {s1 : Int} (k : XCv d 58 [.inr (.inr 21), .inr (.inr 54), .inl s1, .inl s0] M (fun M' => XW kX7_takeLowest (d + 1) none (wQv Q) 62 [some (.inr (.inr 22)), some (.inr (.inr x1)), some (.inl x2), some (.inl x3)] [] M')) : XW kX7_takeLowest (d + 1) none (wQv Q) 59 [some (.inr (.inr 22)), some (.inr (.inr x1)), some (.inl x2), some (.inl x3)] [.inl s0, .inl s1, .inr (.inr 54), .inr (.inr 21)] M := by
  exact x_callv (args := [.inr (.inr 21), .inr (.inr 54), .inl s1, .inl s0]) rfl rfl rfl k
theorem uX7_takeLowest_62 {d : Nat} {Q : yM → Prop} {M : yM} {x1 : Nat} {x2 : Int} {x3 : Int} (k : XW kX7_takeLowest d none (wQv Q) 26 [some (.inr (.inr 22)), some (.inr (.inr x1)), some (.inl x2), some (.inl (x3 + 1))] [] M) : XW kX7_takeLowest d none (wQv Q) 62 [some (.inr (.inr 22)), some (.inr (.inr x1)), some (.inl x2), some (.inl x3)] [] M := by
  refine x_iinc 1 rfl (by decide) rfl rfl ?_
  exact x_goto rfl k
theorem uX7_takeLowest_68 {d : Nat} {Q : yM → Prop} {M : yM} {x1 : Nat} {x2 : Int} {x3 : Int} (k : XW kX7_takeLowest d none (wQv Q) 14 [some (.inr (.inr 22)), some (.inr (.inr x1)), some (.inl (x2 + 1)), some (.inl x3)] [] M) : XW kX7_takeLowest d none (wQv Q) 68 [some (.inr (.inr 22)), some (.inr (.inr x1)), some (.inl x2), some (.inl x3)] [] M := by
  refine x_iinc 1 rfl (by decide) rfl rfl ?_
  exact x_goto rfl k
theorem uX7_takeLowest_74 {d : Nat} {Q : yM → Prop} {M : yM} {x1 : Nat} {x2 : Int} {wx3 : Option yV} (k : Q M) : XW kX7_takeLowest d none (wQv Q) 74 [some (.inr (.inr 22)), some (.inr (.inr x1)), some (.inl x2), wx3] [] M := by
  exact x_return rfl k
theorem eX7_isWhole {d : Nat} {Q : Int → yM → Prop} {M : yM} {x1 : Nat}  (h : XW kX7_isWhole d (some .boolean) (wQi Q) 0 [some (.inr (.inr 22)), some (.inr (.inr x1)), none, none, none, none, none, none] [] M) : XCi d 54 [.inr (.inr 22), .inr (.inr x1)] M Q :=
  XC.ofW (Mm := (yX7_isWhole, cX7_isWhole, 8, (some .boolean), 8, kX7_isWhole)) rfl (rcv_ok sh22) rfl rfl h
theorem uX7_isWhole_0 {d : Nat} {Q : Int → yM → Prop} {M : yM} {x1 : Nat} (k : XW kX7_isWhole d (some .boolean) (wQi Q) 4 [some (.inr (.inr 22)), some (.inr (.inr x1)), some (.inl 1), some (.inl 0), none, none, none, none] [] M) : XW kX7_isWhole d (some .boolean) (wQi Q) 0 [some (.inr (.inr 22)), some (.inr (.inr x1)), none, none, none, none, none, none] [] M := by
  refine x_iconst 1 rfl (by decide) ?_
  refine x_istore_n rfl (Nat.le_of_ble_eq_true rfl) rfl ?_
  refine x_iconst 0 rfl (by decide) ?_
  refine x_istore_n rfl (Nat.le_of_ble_eq_true rfl) rfl ?_
  exact k
theorem uX7_isWhole_4 {d : Nat} {Q : Int → yM → Prop} {M : yM} {x1 : Nat} {x2 : Int} {x3 : Int} {wx4 : Option yV} {wx5 : Option yV} {wx7 : Option yV} (h1 : -2147483648 ≤ x3 ∧ x3 < 2147483648) (kt : x3 ≥ (ld M 22 6) → XW kX7_isWhole d (some .boolean) (wQi Q) 158 [some (.inr (.inr 22)), some (.inr (.inr x1)), some (.inl x2), some (.inl x3), wx4, wx5, none, wx7] [] M) (kf : x3 < (ld M 22 6) → XW kX7_isWhole d (some .boolean) (wQi Q) 12 [some (.inr (.inr 22)), some (.inr (.inr x1)), some (.inl x2), some (.inl x3), wx4, wx5, none, wx7] [] M) : XW kX7_isWhole d (some .boolean) (wQi Q) 4 [some (.inr (.inr 22)), some (.inr (.inr x1)), some (.inl x2), some (.inl x3), wx4, wx5, none, wx7] [] M := by
  refine x_iload_n rfl rfl ?_
  refine x_aload_n rfl rfl ?_
  refine x_getI rfl sh22 rfl ?_
  exact x_icmpge rfl h1 (rng_ld _ _ _) kt kf
theorem uX7_isWhole_12 {d : Nat} {Q : Int → yM → Prop} {M : yM} {x1 : Nat} {x2 : Int} {x3 : Int} {wx4 : Option yV} {wx5 : Option yV} {wx7 : Option yV} (k : XW kX7_isWhole d (some .boolean) (wQi Q) 17 [some (.inr (.inr 22)), some (.inr (.inr x1)), some (.inl x2), some (.inl x3), some (.inl (x3 + 1)), wx5, none, wx7] [] M) : XW kX7_isWhole d (some .boolean) (wQi Q) 12 [some (.inr (.inr 22)), some (.inr (.inr x1)), some (.inl x2), some (.inl x3), wx4, wx5, none, wx7] [] M := by
  refine x_iload_n rfl rfl ?_
  refine x_iconst 1 rfl (by decide) ?_
  refine x_iadd rfl ?_
  refine x_istore rfl (Nat.le_of_ble_eq_true rfl) rfl ?_
  exact k
theorem uX7_isWhole_17 {d : Nat} {Q : Int → yM → Prop} {M : yM} {x1 : Nat} {x2 : Int} {x3 : Int} {x4 : Int} {wx5 : Option yV} {wx7 : Option yV} (h1 : -2147483648 ≤ x4 ∧ x4 < 2147483648) (kt : x4 ≥ (ld M 22 6) → XW kX7_isWhole d (some .boolean) (wQi Q) 152 [some (.inr (.inr 22)), some (.inr (.inr x1)), some (.inl x2), some (.inl x3), some (.inl x4), wx5, none, wx7] [] M) (kf : x4 < (ld M 22 6) → XW kX7_isWhole d (some .boolean) (wQi Q) 26 [some (.inr (.inr 22)), some (.inr (.inr x1)), some (.inl x2), some (.inl x3), some (.inl x4), wx5, none, wx7] [] M) : XW kX7_isWhole d (some .boolean) (wQi Q) 17 [some (.inr (.inr 22)), some (.inr (.inr x1)), some (.inl x2), some (.inl x3), some (.inl x4), wx5, none, wx7] [] M := by
  refine x_iload rfl rfl ?_
  refine x_aload_n rfl rfl ?_
  refine x_getI rfl sh22 rfl ?_
  exact x_icmpge rfl h1 (rng_ld _ _ _) kt kf
theorem uX7_isWhole_26 {d : Nat} {Q : Int → yM → Prop} {M : yM} {x1 : Nat} {x2 : Int} {x3 : Int} {x4 : Int} {wx5 : Option yV} {wx7 : Option yV} (h1 : arrSh x1 64) (h2 : 0 ≤ ((8 * x3) + x4) ∧ ((8 * x3) + x4) < 64) (h3 : 0 ≤ ((8 * x4) + x3) ∧ ((8 * x4) + x3) < 64) (k : XW kX7_isWhole d (some .boolean) (wQi Q) 54 [some (.inr (.inr 22)), some (.inr (.inr x1)), some (.inl (yor x2 (yor (ld M x1 ((8 * x3) + x4)) (ld M x1 ((8 * x4) + x3))))), some (.inl x3), some (.inl x4), some (.inr (.inl 0)), none, some (.inl 0)] [] M) : XW kX7_isWhole d (some .boolean) (wQi Q) 26 [some (.inr (.inr 22)), some (.inr (.inr x1)), some (.inl x2), some (.inl x3), some (.inl x4), wx5, none, wx7] [] M := by
  refine x_iload_n rfl rfl ?_
  refine x_aload_n rfl rfl ?_
  refine x_bipush 8 rfl (by decide) ?_
  refine x_iload_n rfl rfl ?_
  refine x_imul rfl ?_
  refine x_iload rfl rfl ?_
  refine x_iadd rfl ?_
  refine x_iaload rfl h1 h2 ?_
  refine x_aload_n rfl rfl ?_
  refine x_bipush 8 rfl (by decide) ?_
  refine x_iload rfl rfl ?_
  refine x_imul rfl ?_
  refine x_iload_n rfl rfl ?_
  refine x_iadd rfl ?_
  refine x_iaload rfl h1 h3 ?_
  refine x_ior rfl ?_
  refine x_ior rfl ?_
  refine x_istore_n rfl (Nat.le_of_ble_eq_true rfl) rfl ?_
  refine x_lconst 0 rfl (by decide) ?_
  refine x_lstore rfl (Nat.le_of_ble_eq_true rfl) rfl ?_
  refine x_iconst 0 rfl (by decide) ?_
  refine x_istore rfl (Nat.le_of_ble_eq_true rfl) rfl ?_
  exact k
theorem uX7_isWhole_54 {d : Nat} {Q : Int → yM → Prop} {M : yM} {x1 : Nat} {x2 : Int} {x3 : Int} {x4 : Int} {x5 : Int} {x7 : Int} (h1 : -2147483648 ≤ x7 ∧ x7 < 2147483648) (kt : x7 ≥ (ld M 22 6) → XW kX7_isWhole d (some .boolean) (wQi Q) 118 [some (.inr (.inr 22)), some (.inr (.inr x1)), some (.inl x2), some (.inl x3), some (.inl x4), some (.inr (.inl x5)), none, some (.inl x7)] [] M) (kf : x7 < (ld M 22 6) → XW kX7_isWhole d (some .boolean) (wQi Q) 63 [some (.inr (.inr 22)), some (.inr (.inr x1)), some (.inl x2), some (.inl x3), some (.inl x4), some (.inr (.inl x5)), none, some (.inl x7)] [] M) : XW kX7_isWhole d (some .boolean) (wQi Q) 54 [some (.inr (.inr 22)), some (.inr (.inr x1)), some (.inl x2), some (.inl x3), some (.inl x4), some (.inr (.inl x5)), none, some (.inl x7)] [] M := by
  refine x_iload rfl rfl ?_
  refine x_aload_n rfl rfl ?_
  refine x_getI rfl sh22 rfl ?_
  exact x_icmpge rfl h1 (rng_ld _ _ _) kt kf
theorem uX7_isWhole_63 {d : Nat} {Q : Int → yM → Prop} {M : yM} {x1 : Nat} {x2 : Int} {x3 : Int} {x4 : Int} {x5 : Int} {x7 : Int} (h1 : -2147483648 ≤ x7 ∧ x7 < 2147483648) (h2 : -2147483648 ≤ x3 ∧ x3 < 2147483648) (kt : x7 = x3 → XW kX7_isWhole d (some .boolean) (wQi Q) 112 [some (.inr (.inr 22)), some (.inr (.inr x1)), some (.inl x2), some (.inl x3), some (.inl x4), some (.inr (.inl x5)), none, some (.inl x7)] [] M) (kf : x7 ≠ x3 → XW kX7_isWhole d (some .boolean) (wQi Q) 69 [some (.inr (.inr 22)), some (.inr (.inr x1)), some (.inl x2), some (.inl x3), some (.inl x4), some (.inr (.inl x5)), none, some (.inl x7)] [] M) : XW kX7_isWhole d (some .boolean) (wQi Q) 63 [some (.inr (.inr 22)), some (.inr (.inr x1)), some (.inl x2), some (.inl x3), some (.inl x4), some (.inr (.inl x5)), none, some (.inl x7)] [] M := by
  refine x_iload rfl rfl ?_
  refine x_iload_n rfl rfl ?_
  exact x_icmpeq rfl h1 h2 kt kf
theorem uX7_isWhole_69 {d : Nat} {Q : Int → yM → Prop} {M : yM} {x1 : Nat} {x2 : Int} {x3 : Int} {x4 : Int} {x5 : Int} {x7 : Int} (h1 : -2147483648 ≤ x7 ∧ x7 < 2147483648) (h2 : -2147483648 ≤ x4 ∧ x4 < 2147483648) (kt : x7 = x4 → XW kX7_isWhole d (some .boolean) (wQi Q) 112 [some (.inr (.inr 22)), some (.inr (.inr x1)), some (.inl x2), some (.inl x3), some (.inl x4), some (.inr (.inl x5)), none, some (.inl x7)] [] M) (kf : x7 ≠ x4 → XW kX7_isWhole d (some .boolean) (wQi Q) 76 [some (.inr (.inr 22)), some (.inr (.inr x1)), some (.inl x2), some (.inl x3), some (.inl x4), some (.inr (.inl x5)), none, some (.inl x7)] [] M) : XW kX7_isWhole d (some .boolean) (wQi Q) 69 [some (.inr (.inr 22)), some (.inr (.inr x1)), some (.inl x2), some (.inl x3), some (.inl x4), some (.inr (.inl x5)), none, some (.inl x7)] [] M := by
  refine x_iload rfl rfl ?_
  refine x_iload rfl rfl ?_
  exact x_icmpeq rfl h1 h2 kt kf
theorem uX7_isWhole_76 {d : Nat} {Q : Int → yM → Prop} {M : yM} {x1 : Nat} {x2 : Int} {x3 : Int} {x4 : Int} {x5 : Int} {x7 : Int} (h1 : arrSh x1 64) (h2 : 0 ≤ ((8 * x3) + x7) ∧ ((8 * x3) + x7) < 64) (k : XCi d 116 [.inl (ld M x1 ((8 * x3) + x7))] M (fun v M' => XW kX7_isWhole (d + 1) (some .boolean) (wQi Q) 93 [some (.inr (.inr 22)), some (.inr (.inr x1)), some (.inl x2), some (.inl x3), some (.inl x4), some (.inr (.inl x5)), none, some (.inl x7)] [.inl v, .inl 8, .inr (.inl 1), .inr (.inl x5)] M')) : XW kX7_isWhole (d + 1) (some .boolean) (wQi Q) 76 [some (.inr (.inr 22)), some (.inr (.inr x1)), some (.inl x2), some (.inl x3), some (.inl x4), some (.inr (.inl x5)), none, some (.inl x7)] [] M := by
  refine x_lload rfl rfl ?_
  refine x_lconst 1 rfl (by decide) ?_
  refine x_bipush 8 rfl (by decide) ?_
  refine x_aload_n rfl rfl ?_
  refine x_bipush 8 rfl (by decide) ?_
  refine x_iload_n rfl rfl ?_
  refine x_imul rfl ?_
  refine x_iload rfl rfl ?_
  refine x_iadd rfl ?_
  refine x_iaload rfl h1 h2 ?_
  exact x_calli (args := [.inl (ld M x1 ((8 * x3) + x7))]) rfl rfl rfl k
theorem uX7_isWhole_93 {d : Nat} {Q : Int → yM → Prop} {M : yM} {x1 : Nat} {x2 : Int} {x3 : Int} {x4 : Int} {x5 : Int} {x7 : Int} {s0 : Int} {s1 : Int} {s2 : Int} {s3 : Int} (h1 : arrSh x1 64) (h2 : 0 ≤ ((8 * x7) + x4) ∧ ((8 * x7) + x4) < 64) (k : XCi d 116 [.inl (ld M x1 ((8 * x7) + x4))] M (fun v M' => XW kX7_isWhole (d + 1) (some .boolean) (wQi Q) 107 [some (.inr (.inr 22)), some (.inr (.inr x1)), some (.inl x2), some (.inl x3), some (.inl x4), some (.inr (.inl x5)), none, some (.inl x7)] [.inl v, .inl (s1 * s0), .inr (.inl s2), .inr (.inl s3)] M')) : XW kX7_isWhole (d + 1) (some .boolean) (wQi Q) 93 [some (.inr (.inr 22)), some (.inr (.inr x1)), some (.inl x2), some (.inl x3), some (.inl x4), some (.inr (.inl x5)), none, some (.inl x7)] [.inl s0, .inl s1, .inr (.inl s2), .inr (.inl s3)] M := by
  refine x_imul rfl ?_
  refine x_aload_n rfl rfl ?_
  refine x_bipush 8 rfl (by decide) ?_
  refine x_iload rfl rfl ?_
  refine x_imul rfl ?_
  refine x_iload rfl rfl ?_
  refine x_iadd rfl ?_
  refine x_iaload rfl h1 h2 ?_
  exact x_calli (args := [.inl (ld M x1 ((8 * x7) + x4))]) rfl rfl rfl k
theorem uX7_isWhole_107 {d : Nat} {Q : Int → yM → Prop} {M : yM} {x1 : Nat} {x2 : Int} {x3 : Int} {x4 : Int} {x5 : Int} {x7 : Int} {s0 : Int} {s1 : Int} {s2 : Int} {s3 : Int} (k : XW kX7_isWhole d (some .boolean) (wQi Q) 112 [some (.inr (.inr 22)), some (.inr (.inr x1)), some (.inl x2), some (.inl x3), some (.inl x4), some (.inr (.inl (zor s3 (zshl s2 (s1 + s0))))), none, some (.inl x7)] [] M) : XW kX7_isWhole d (some .boolean) (wQi Q) 107 [some (.inr (.inr 22)), some (.inr (.inr x1)), some (.inl x2), some (.inl x3), some (.inl x4), some (.inr (.inl x5)), none, some (.inl x7)] [.inl s0, .inl s1, .inr (.inl s2), .inr (.inl s3)] M := by
  refine x_iadd rfl ?_
  refine x_lshl rfl ?_
  refine x_lor rfl ?_
  refine x_lstore rfl (Nat.le_of_ble_eq_true rfl) rfl ?_
  exact k
theorem uX7_isWhole_112 {d : Nat} {Q : Int → yM → Prop} {M : yM} {x1 : Nat} {x2 : Int} {x3 : Int} {x4 : Int} {x5 : Int} {x7 : Int} (k : XW kX7_isWhole d (some .boolean) (wQi Q) 54 [some (.inr (.inr 22)), some (.inr (.inr x1)), some (.inl x2), some (.inl x3), some (.inl x4), some (.inr (.inl x5)), none, some (.inl (x7 + 1))] [] M) : XW kX7_isWhole d (some .boolean) (wQi Q) 112 [some (.inr (.inr 22)), some (.inr (.inr x1)), some (.inl x2), some (.inl x3), some (.inl x4), some (.inr (.inl x5)), none, some (.inl x7)] [] M := by
  refine x_iinc 1 rfl (by decide) rfl rfl ?_
  exact x_goto rfl k
theorem uX7_isWhole_118 {d : Nat} {Q : Int → yM → Prop} {M : yM} {x1 : Nat} {x2 : Int} {x3 : Int} {x4 : Int} {x5 : Int} {x7 : Int} (h1 : arrSh x1 64) (h2 : 0 ≤ ((8 * x3) + x4) ∧ ((8 * x3) + x4) < 64) (k : XCi d 116 [.inl (ld M x1 ((8 * x3) + x4))] M (fun v M' => XW kX7_isWhole (d + 1) (some .boolean) (wQi Q) 136 [some (.inr (.inr 22)), some (.inr (.inr x1)), some (.inl x2), some (.inl x3), some (.inl x4), some (.inr (.inl x5)), none, some (.inl x7)] [.inl v, .inr (.inr 55), .inr (.inl x5)] M')) : XW kX7_isWhole (d + 1) (some .boolean) (wQi Q) 118 [some (.inr (.inr 22)), some (.inr (.inr x1)), some (.inl x2), some (.inl x3), some (.inl x4), some (.inr (.inl x5)), none, some (.inl x7)] [] M := by
  refine x_lload rfl rfl ?_
  refine x_aload_n rfl rfl ?_
  refine x_getR rfl sh22 rfl ?_
  refine x_aload_n rfl rfl ?_
  refine x_bipush 8 rfl (by decide) ?_
  refine x_iload_n rfl rfl ?_
  refine x_imul rfl ?_
  refine x_iload rfl rfl ?_
  refine x_iadd rfl ?_
  refine x_iaload rfl h1 h2 ?_
  exact x_calli (args := [.inl (ld M x1 ((8 * x3) + x4))]) rfl rfl rfl k
theorem uX7_isWhole_136 {d : Nat} {Q : Int → yM → Prop} {M : yM} {x1 : Nat} {x2 : Int} {x3 : Int} {x4 : Int} {x5 : Int} {x7 : Int} {s0 : Int} {s2 : Int} (h1 : 0 ≤ (yand s0 7) ∧ (yand s0 7) < 8) (h2 : -2147483648 ≤ (zcmp s2 (ldL M 55 (yand s0 7))) ∧ (zcmp s2 (ldL M 55 (yand s0 7))) < 2147483648) (kt : (zcmp s2 (ldL M 55 (yand s0 7))) = 0 → XW kX7_isWhole d (some .boolean) (wQi Q) 146 [some (.inr (.inr 22)), some (.inr (.inr x1)), some (.inl x2), some (.inl x3), some (.inl x4), some (.inr (.inl x5)), none, some (.inl x7)] [] M) (kf : (zcmp s2 (ldL M 55 (yand s0 7))) ≠ 0 → XW kX7_isWhole d (some .boolean) (wQi Q) 144 [some (.inr (.inr 22)), some (.inr (.inr x1)), some (.inl x2), some (.inl x3), some (.inl x4), some (.inr (.inl x5)), none, some (.inl x7)] [] M) : XW kX7_isWhole d (some .boolean) (wQi Q) 136 [some (.inr (.inr 22)), some (.inr (.inr x1)), some (.inl x2), some (.inl x3), some (.inl x4), some (.inr (.inl x5)), none, some (.inl x7)] [.inl s0, .inr (.inr 55), .inr (.inl s2)] M := by
  refine x_bipush 7 rfl (by decide) ?_
  refine x_iand rfl ?_
  refine x_laload rfl ⟨sh55, Nat.le_of_ble_eq_true rfl⟩ h1 ?_
  refine x_lcmp rfl ?_
  exact x_ifeq rfl h2 kt kf
theorem uX7_isWhole_144 {d : Nat} {Q : Int → yM → Prop} {M : yM} {x1 : Nat} {x2 : Int} {x3 : Int} {x4 : Int} {x5 : Int} {x7 : Int} (k : Q 0 M) : XW kX7_isWhole d (some .boolean) (wQi Q) 144 [some (.inr (.inr 22)), some (.inr (.inr x1)), some (.inl x2), some (.inl x3), some (.inl x4), some (.inr (.inl x5)), none, some (.inl x7)] [] M := by
  refine x_iconst 0 rfl (by decide) ?_
  exact x_zreturn rfl (by decide) k
theorem uX7_isWhole_146 {d : Nat} {Q : Int → yM → Prop} {M : yM} {x1 : Nat} {x2 : Int} {x3 : Int} {x4 : Int} {x5 : Int} {x7 : Int} (k : XW kX7_isWhole d (some .boolean) (wQi Q) 17 [some (.inr (.inr 22)), some (.inr (.inr x1)), some (.inl x2), some (.inl x3), some (.inl (x4 + 1)), some (.inr (.inl x5)), none, some (.inl x7)] [] M) : XW kX7_isWhole d (some .boolean) (wQi Q) 146 [some (.inr (.inr 22)), some (.inr (.inr x1)), some (.inl x2), some (.inl x3), some (.inl x4), some (.inr (.inl x5)), none, some (.inl x7)] [] M := by
  refine x_iinc 1 rfl (by decide) rfl rfl ?_
  exact x_goto rfl k
theorem uX7_isWhole_152 {d : Nat} {Q : Int → yM → Prop} {M : yM} {x1 : Nat} {x2 : Int} {x3 : Int} {x4 : Int} {wx5 : Option yV} {wx7 : Option yV} (k : XW kX7_isWhole d (some .boolean) (wQi Q) 4 [some (.inr (.inr 22)), some (.inr (.inr x1)), some (.inl x2), some (.inl (x3 + 1)), some (.inl x4), wx5, none, wx7] [] M) : XW kX7_isWhole d (some .boolean) (wQi Q) 152 [some (.inr (.inr 22)), some (.inr (.inr x1)), some (.inl x2), some (.inl x3), some (.inl x4), wx5, none, wx7] [] M := by
  refine x_iinc 1 rfl (by decide) rfl rfl ?_
  exact x_goto rfl k
theorem uX7_isWhole_158 {d : Nat} {Q : Int → yM → Prop} {M : yM} {x1 : Nat} {x2 : Int} {x3 : Int} {wx4 : Option yV} {wx5 : Option yV} {wx7 : Option yV} (k : XCi d 60 [.inr (.inr 1)] M (fun v M' => XW kX7_isWhole (d + 1) (some .boolean) (wQi Q) 166 [some (.inr (.inr 22)), some (.inr (.inr x1)), some (.inl x2), some (.inl x3), wx4, wx5, none, wx7] [.inl v, .inl x2] M')) : XW kX7_isWhole (d + 1) (some .boolean) (wQi Q) 158 [some (.inr (.inr 22)), some (.inr (.inr x1)), some (.inl x2), some (.inl x3), wx4, wx5, none, wx7] [] M := by
  refine x_iload_n rfl rfl ?_
  refine x_aload_n rfl rfl ?_
  refine x_getR rfl sh22 rfl ?_
  exact x_calli (args := [.inr (.inr 1)]) rfl rfl rfl k
theorem uX7_isWhole_166 {d : Nat} {Q : Int → yM → Prop} {M : yM} {x1 : Nat} {x2 : Int} {x3 : Int} {wx4 : Option yV} {wx5 : Option yV} {wx7 : Option yV} {s0 : Int} {s1 : Int} (h1 : -2147483648 ≤ s1 ∧ s1 < 2147483648) (h2 : -2147483648 ≤ s0 ∧ s0 < 2147483648) (kt : s1 ≠ s0 → XW kX7_isWhole d (some .boolean) (wQi Q) 173 [some (.inr (.inr 22)), some (.inr (.inr x1)), some (.inl x2), some (.inl x3), wx4, wx5, none, wx7] [] M) (kf : s1 = s0 → XW kX7_isWhole d (some .boolean) (wQi Q) 169 [some (.inr (.inr 22)), some (.inr (.inr x1)), some (.inl x2), some (.inl x3), wx4, wx5, none, wx7] [] M) : XW kX7_isWhole d (some .boolean) (wQi Q) 166 [some (.inr (.inr 22)), some (.inr (.inr x1)), some (.inl x2), some (.inl x3), wx4, wx5, none, wx7] [.inl s0, .inl s1] M := by
  exact x_icmpne rfl h1 h2 kt kf
theorem uX7_isWhole_169 {d : Nat} {Q : Int → yM → Prop} {M : yM} {x1 : Nat} {x2 : Int} {x3 : Int} {wx4 : Option yV} {wx5 : Option yV} {wx7 : Option yV} (k : XW kX7_isWhole d (some .boolean) (wQi Q) 174 [some (.inr (.inr 22)), some (.inr (.inr x1)), some (.inl x2), some (.inl x3), wx4, wx5, none, wx7] [.inl 1] M) : XW kX7_isWhole d (some .boolean) (wQi Q) 169 [some (.inr (.inr 22)), some (.inr (.inr x1)), some (.inl x2), some (.inl x3), wx4, wx5, none, wx7] [] M := by
  refine x_iconst 1 rfl (by decide) ?_
  exact x_goto rfl k
theorem uX7_isWhole_173 {d : Nat} {Q : Int → yM → Prop} {M : yM} {x1 : Nat} {x2 : Int} {x3 : Int} {wx4 : Option yV} {wx5 : Option yV} {wx7 : Option yV} (k : XW kX7_isWhole d (some .boolean) (wQi Q) 174 [some (.inr (.inr 22)), some (.inr (.inr x1)), some (.inl x2), some (.inl x3), wx4, wx5, none, wx7] [.inl 0] M) : XW kX7_isWhole d (some .boolean) (wQi Q) 173 [some (.inr (.inr 22)), some (.inr (.inr x1)), some (.inl x2), some (.inl x3), wx4, wx5, none, wx7] [] M := by
  refine x_iconst 0 rfl (by decide) ?_
  exact k
theorem uX7_isWhole_174 {d : Nat} {Q : Int → yM → Prop} {M : yM} {x1 : Nat} {x2 : Int} {x3 : Int} {wx4 : Option yV} {wx5 : Option yV} {wx7 : Option yV} {s0 : Int} (h1 : s0 = 0 ∨ s0 = 1) (k : Q s0 M) : XW kX7_isWhole d (some .boolean) (wQi Q) 174 [some (.inr (.inr 22)), some (.inr (.inr x1)), some (.inl x2), some (.inl x3), wx4, wx5, none, wx7] [.inl s0] M := by
  exact x_zreturn rfl h1 k
theorem eX8_pass {d : Nat} {Q : Int → yM → Prop} {M : yM} {x1 : Nat} {x2 : Int} {x3 : Int} {x4 : Int}  (h : XW kX8_pass d (some .int) (wQi Q) 0 [some (.inr (.inr 21)), some (.inr (.inr x1)), some (.inl x2), some (.inl x3), some (.inl x4), none, none] [] M) : XCi d 56 [.inr (.inr 21), .inr (.inr x1), .inl x2, .inl x3, .inl x4] M Q :=
  XC.ofW (Mm := (yX8_pass, cX8_pass, 7, (some .int), 9, kX8_pass)) rfl (rcv_ok sh21) rfl rfl h
theorem uX8_pass_0 {d : Nat} {Q : Int → yM → Prop} {M : yM} {x1 : Nat} {x2 : Int} {x3 : Int} {x4 : Int} (h1 : arrSh x1 64) (h2 : 0 ≤ ((8 * x2) + x4) ∧ ((8 * x2) + x4) < 64) (h3 : 0 ≤ ((8 * x2) + x3) ∧ ((8 * x2) + x3) < 64) (h4 : 0 ≤ ((8 * x3) + x4) ∧ ((8 * x3) + x4) < 64) (k : XCi d 71 [.inr (.inr 1), .inl (ld M x1 ((8 * x2) + x3)), .inl (ld M x1 ((8 * x3) + x4))] M (fun v M' => XW kX8_pass (d + 1) (some .int) (wQi Q) 37 [some (.inr (.inr 21)), some (.inr (.inr x1)), some (.inl x2), some (.inl x3), some (.inl x4), some (.inl (ld M x1 ((8 * x2) + x4))), none] [.inl v, .inl (ld M x1 ((8 * x2) + x4))] M')) : XW kX8_pass (d + 1) (some .int) (wQi Q) 0 [some (.inr (.inr 21)), some (.inr (.inr x1)), some (.inl x2), some (.inl x3), some (.inl x4), none, none] [] M := by
  refine x_aload_n rfl rfl ?_
  refine x_bipush 8 rfl (by decide) ?_
  refine x_iload_n rfl rfl ?_
  refine x_imul rfl ?_
  refine x_iload rfl rfl ?_
  refine x_iadd rfl ?_
  refine x_iaload rfl h1 h2 ?_
  refine x_istore rfl (Nat.le_of_ble_eq_true rfl) rfl ?_
  refine x_iload rfl rfl ?_
  refine x_aload_n rfl rfl ?_
  refine x_getR rfl sh21 rfl ?_
  refine x_aload_n rfl rfl ?_
  refine x_bipush 8 rfl (by decide) ?_
  refine x_iload_n rfl rfl ?_
  refine x_imul rfl ?_
  refine x_iload_n rfl rfl ?_
  refine x_iadd rfl ?_
  refine x_iaload rfl h1 h3 ?_
  refine x_aload_n rfl rfl ?_
  refine x_bipush 8 rfl (by decide) ?_
  refine x_iload_n rfl rfl ?_
  refine x_imul rfl ?_
  refine x_iload rfl rfl ?_
  refine x_iadd rfl ?_
  refine x_iaload rfl h1 h4 ?_
  exact x_calli (args := [.inr (.inr 1), .inl (ld M x1 ((8 * x2) + x3)), .inl (ld M x1 ((8 * x3) + x4))]) rfl rfl rfl k
theorem uX8_pass_37 {d : Nat} {Q : Int → yM → Prop} {M : yM} {x1 : Nat} {x2 : Int} {x3 : Int} {x4 : Int} {x5 : Int} {s0 : Int} {s1 : Int} (h1 : -2147483648 ≤ x5 ∧ x5 < 2147483648) (kt : (yand s1 s0) ≠ x5 → XW kX8_pass d (some .int) (wQi Q) 49 [some (.inr (.inr 21)), some (.inr (.inr x1)), some (.inl x2), some (.inl x3), some (.inl x4), some (.inl x5), some (.inl (yand s1 s0))] [] M) (kf : (yand s1 s0) = x5 → XW kX8_pass d (some .int) (wQi Q) 47 [some (.inr (.inr 21)), some (.inr (.inr x1)), some (.inl x2), some (.inl x3), some (.inl x4), some (.inl x5), some (.inl (yand s1 s0))] [] M) : XW kX8_pass d (some .int) (wQi Q) 37 [some (.inr (.inr 21)), some (.inr (.inr x1)), some (.inl x2), some (.inl x3), some (.inl x4), some (.inl x5), none] [.inl s0, .inl s1] M := by
  refine x_iand rfl ?_
  refine x_istore rfl (Nat.le_of_ble_eq_true rfl) rfl ?_
  refine x_iload rfl rfl ?_
  refine x_iload rfl rfl ?_
  exact x_icmpne rfl (rng_yand _ _) h1 kt kf
theorem uX8_pass_47 {d : Nat} {Q : Int → yM → Prop} {M : yM} {x1 : Nat} {x2 : Int} {x3 : Int} {x4 : Int} {x5 : Int} {x6 : Int} (k : Q (-1) M) : XW kX8_pass d (some .int) (wQi Q) 47 [some (.inr (.inr 21)), some (.inr (.inr x1)), some (.inl x2), some (.inl x3), some (.inl x4), some (.inl x5), some (.inl x6)] [] M := by
  refine x_iconst (-1) rfl (by decide) ?_
  exact x_ireturn rfl k
theorem uX8_pass_49 {d : Nat} {Q : Int → yM → Prop} {M : yM} {x1 : Nat} {x2 : Int} {x3 : Int} {x4 : Int} {x5 : Int} {x6 : Int} (h1 : arrSh x1 64) (h2 : 0 ≤ ((8 * x2) + x4) ∧ ((8 * x2) + x4) < 64) (k : ∀ M', M' = (put M x1 ((8 * x2) + x4) x6) → XW kX8_pass d (some .int) (wQi Q) 60 [some (.inr (.inr 21)), some (.inr (.inr x1)), some (.inl x2), some (.inl x3), some (.inl x4), some (.inl x5), some (.inl x6)] [] M') : XW kX8_pass d (some .int) (wQi Q) 49 [some (.inr (.inr 21)), some (.inr (.inr x1)), some (.inl x2), some (.inl x3), some (.inl x4), some (.inl x5), some (.inl x6)] [] M := by
  refine x_aload_n rfl rfl ?_
  refine x_bipush 8 rfl (by decide) ?_
  refine x_iload_n rfl rfl ?_
  refine x_imul rfl ?_
  refine x_iload rfl rfl ?_
  refine x_iadd rfl ?_
  refine x_iload rfl rfl ?_
  refine x_iastore rfl h1 h2  ?_
  exact k _ rfl
theorem uX8_pass_60 {d : Nat} {Q : Int → yM → Prop} {M : yM} {x1 : Nat} {x2 : Int} {x3 : Int} {x4 : Int} {x5 : Int} {x6 : Int} (k : XCi d 70 [.inr (.inr 1), .inl x6] M (fun v M' => XW kX8_pass (d + 1) (some .int) (wQi Q) 77 [some (.inr (.inr 21)), some (.inr (.inr x1)), some (.inl x2), some (.inl x3), some (.inl x4), some (.inl x5), some (.inl x6)] [.inl v, .inl ((8 * x4) + x2), .inr (.inr x1)] M')) : XW kX8_pass (d + 1) (some .int) (wQi Q) 60 [some (.inr (.inr 21)), some (.inr (.inr x1)), some (.inl x2), some (.inl x3), some (.inl x4), some (.inl x5), some (.inl x6)] [] M := by
  refine x_aload_n rfl rfl ?_
  refine x_bipush 8 rfl (by decide) ?_
  refine x_iload rfl rfl ?_
  refine x_imul rfl ?_
  refine x_iload_n rfl rfl ?_
  refine x_iadd rfl ?_
  refine x_aload_n rfl rfl ?_
  refine x_getR rfl sh21 rfl ?_
  refine x_iload rfl rfl ?_
  exact x_calli (args := [.inr (.inr 1), .inl x6]) rfl rfl rfl k
theorem uX8_pass_77 {d : Nat} {Q : Int → yM → Prop} {M : yM} {x1 : Nat} {x2 : Int} {x3 : Int} {x4 : Int} {x5 : Int} {x6 : Int} {s0 : Int} {s1 : Int} {s2 : Nat} (h1 : arrSh s2 64) (h2 : 0 ≤ s1 ∧ s1 < 64) (k : ∀ M', M' = (put M s2 s1 s0) → XW kX8_pass d (some .int) (wQi Q) 78 [some (.inr (.inr 21)), some (.inr (.inr x1)), some (.inl x2), some (.inl x3), some (.inl x4), some (.inl x5), some (.inl x6)] [] M') : XW kX8_pass d (some .int) (wQi Q) 77 [some (.inr (.inr 21)), some (.inr (.inr x1)), some (.inl x2), some (.inl x3), some (.inl x4), some (.inl x5), some (.inl x6)] [.inl s0, .inl s1, .inr (.inr s2)] M := by
  refine x_iastore rfl h1 h2  ?_
  exact k _ rfl
theorem uX8_pass_78 {d : Nat} {Q : Int → yM → Prop} {M : yM} {x1 : Nat} {x2 : Int} {x3 : Int} {x4 : Int} {x5 : Int} {x6 : Int} (k : Q x6 M) : XW kX8_pass d (some .int) (wQi Q) 78 [some (.inr (.inr 21)), some (.inr (.inr x1)), some (.inl x2), some (.inl x3), some (.inl x4), some (.inl x5), some (.inl x6)] [] M := by
  refine x_iload rfl rfl ?_
  exact x_ireturn rfl k
theorem eX8_settles {d : Nat} {Q : Int → yM → Prop} {M : yM} {x1 : Nat} {x2 : Int} {x3 : Int}  (h : XW kX8_settles d (some .boolean) (wQi Q) 0 [some (.inr (.inr 21)), some (.inr (.inr x1)), some (.inl x2), some (.inr (.inl x3)), none, none, none, none, none, none, none, none, none, none] [] M) : XCi d 57 [.inr (.inr 21), .inr (.inr x1), .inl x2, .inr (.inl x3)] M Q :=
  XC.ofW (Mm := (yX8_settles, cX8_settles, 14, (some .boolean), 9, kX8_settles)) rfl (rcv_ok sh21) rfl rfl h
theorem uX8_settles_0 {d : Nat} {Q : Int → yM → Prop} {M : yM} {x1 : Nat} {x2 : Int} {x3 : Int} (k : XW kX8_settles d (some .boolean) (wQi Q) 6 [some (.inr (.inr 21)), some (.inr (.inr x1)), some (.inl x2), some (.inr (.inl x3)), none, some (.inr (.inl x3)), none, some (.inl 0), none, none, none, none, none, none] [] M) : XW kX8_settles d (some .boolean) (wQi Q) 0 [some (.inr (.inr 21)), some (.inr (.inr x1)), some (.inl x2), some (.inr (.inl x3)), none, none, none, none, none, none, none, none, none, none] [] M := by
  refine x_lload_n rfl rfl ?_
  refine x_lstore rfl (Nat.le_of_ble_eq_true rfl) rfl ?_
  refine x_iconst 0 rfl (by decide) ?_
  refine x_istore rfl (Nat.le_of_ble_eq_true rfl) rfl ?_
  exact k
theorem uX8_settles_6 {d : Nat} {Q : Int → yM → Prop} {M : yM} {x1 : Nat} {x2 : Int} {x3 : Int} {x5 : Int} {x7 : Int} {wx8 : Option yV} {wx9 : Option yV} {wx10 : Option yV} {wx11 : Option yV} {wx12 : Option yV} {wx13 : Option yV} (h1 : -2147483648 ≤ (zcmp x5 0) ∧ (zcmp x5 0) < 2147483648) (kt : (zcmp x5 0) = 0 → XW kX8_settles d (some .boolean) (wQi Q) 166 [some (.inr (.inr 21)), some (.inr (.inr x1)), some (.inl x2), some (.inr (.inl x3)), none, some (.inr (.inl x5)), none, some (.inl x7), wx8, wx9, wx10, wx11, wx12, wx13] [] M) (kf : (zcmp x5 0) ≠ 0 → XW kX8_settles d (some .boolean) (wQi Q) 13 [some (.inr (.inr 21)), some (.inr (.inr x1)), some (.inl x2), some (.inr (.inl x3)), none, some (.inr (.inl x5)), none, some (.inl x7), wx8, wx9, wx10, wx11, wx12, wx13] [] M) : XW kX8_settles d (some .boolean) (wQi Q) 6 [some (.inr (.inr 21)), some (.inr (.inr x1)), some (.inl x2), some (.inr (.inl x3)), none, some (.inr (.inl x5)), none, some (.inl x7), wx8, wx9, wx10, wx11, wx12, wx13] [] M := by
  refine x_lload rfl rfl ?_
  refine x_lconst 0 rfl (by decide) ?_
  refine x_lcmp rfl ?_
  exact x_ifeq rfl h1 kt kf
theorem uX8_settles_13 {d : Nat} {Q : Int → yM → Prop} {M : yM} {x1 : Nat} {x2 : Int} {x3 : Int} {x5 : Int} {x7 : Int} {wx8 : Option yV} {wx9 : Option yV} {wx10 : Option yV} {wx11 : Option yV} {wx12 : Option yV} {wx13 : Option yV} (h1 : -2147483648 ≤ x7 ∧ x7 < 2147483648) (kt : x7 ≥ 1000 → XW kX8_settles d (some .boolean) (wQi Q) 166 [some (.inr (.inr 21)), some (.inr (.inr x1)), some (.inl x2), some (.inr (.inl x3)), none, some (.inr (.inl x5)), none, some (.inl x7), wx8, wx9, wx10, wx11, wx12, wx13] [] M) (kf : x7 < 1000 → XW kX8_settles d (some .boolean) (wQi Q) 21 [some (.inr (.inr 21)), some (.inr (.inr x1)), some (.inl x2), some (.inr (.inl x3)), none, some (.inr (.inl x5)), none, some (.inl x7), wx8, wx9, wx10, wx11, wx12, wx13] [] M) : XW kX8_settles d (some .boolean) (wQi Q) 13 [some (.inr (.inr 21)), some (.inr (.inr x1)), some (.inl x2), some (.inr (.inl x3)), none, some (.inr (.inl x5)), none, some (.inl x7), wx8, wx9, wx10, wx11, wx12, wx13] [] M := by
  refine x_iload rfl rfl ?_
  refine x_sipush 1000 rfl (by decide) ?_
  exact x_icmpge rfl h1 (by decide) kt kf
theorem uX8_settles_21 {d : Nat} {Q : Int → yM → Prop} {M : yM} {x1 : Nat} {x2 : Int} {x3 : Int} {x5 : Int} {x7 : Int} {wx8 : Option yV} {wx9 : Option yV} {wx10 : Option yV} {wx11 : Option yV} {wx12 : Option yV} {wx13 : Option yV} (k : XCi d 180 [.inr (.inl ((zand x5 (-x5)) - 1))] M (fun v M' => XW kX8_settles (d + 1) (some .boolean) (wQi Q) 32 [some (.inr (.inr 21)), some (.inr (.inr x1)), some (.inl x2), some (.inr (.inl x3)), none, some (.inr (.inl x5)), none, some (.inl x7), wx8, wx9, wx10, wx11, wx12, wx13] [.inl v] M')) : XW kX8_settles (d + 1) (some .boolean) (wQi Q) 21 [some (.inr (.inr 21)), some (.inr (.inr x1)), some (.inl x2), some (.inr (.inl x3)), none, some (.inr (.inl x5)), none, some (.inl x7), wx8, wx9, wx10, wx11, wx12, wx13] [] M := by
  refine x_lload rfl rfl ?_
  refine x_lload rfl rfl ?_
  refine x_lneg rfl ?_
  refine x_land rfl ?_
  refine x_lconst 1 rfl (by decide) ?_
  refine x_lsub rfl ?_
  exact x_calli (args := [.inr (.inl ((zand x5 (-x5)) - 1))]) rfl rfl rfl k
theorem uX8_settles_32 {d : Nat} {Q : Int → yM → Prop} {M : yM} {x1 : Nat} {x2 : Int} {x3 : Int} {x5 : Int} {x7 : Int} {wx8 : Option yV} {wx9 : Option yV} {wx10 : Option yV} {wx11 : Option yV} {wx12 : Option yV} {wx13 : Option yV} {s0 : Int} (k : XW kX8_settles d (some .boolean) (wQi Q) 59 [some (.inr (.inr 21)), some (.inr (.inr x1)), some (.inl x2), some (.inr (.inl x3)), none, some (.inr (.inl (zand x5 (x5 - 1)))), none, some (.inl x7), some (.inl s0), some (.inl (yshr s0 3)), some (.inl (yand s0 7)), some (.inl 0), wx12, wx13] [] M) : XW kX8_settles d (some .boolean) (wQi Q) 32 [some (.inr (.inr 21)), some (.inr (.inr x1)), some (.inl x2), some (.inr (.inl x3)), none, some (.inr (.inl x5)), none, some (.inl x7), wx8, wx9, wx10, wx11, wx12, wx13] [.inl s0] M := by
  refine x_istore rfl (Nat.le_of_ble_eq_true rfl) rfl ?_
  refine x_lload rfl rfl ?_
  refine x_lload rfl rfl ?_
  refine x_lconst 1 rfl (by decide) ?_
  refine x_lsub rfl ?_
  refine x_land rfl ?_
  refine x_lstore rfl (Nat.le_of_ble_eq_true rfl) rfl ?_
  refine x_iload rfl rfl ?_
  refine x_iconst 3 rfl (by decide) ?_
  refine x_ishr rfl ?_
  refine x_istore rfl (Nat.le_of_ble_eq_true rfl) rfl ?_
  refine x_iload rfl rfl ?_
  refine x_bipush 7 rfl (by decide) ?_
  refine x_iand rfl ?_
  refine x_istore rfl (Nat.le_of_ble_eq_true rfl) rfl ?_
  refine x_iconst 0 rfl (by decide) ?_
  refine x_istore rfl (Nat.le_of_ble_eq_true rfl) rfl ?_
  exact k
theorem uX8_settles_59 {d : Nat} {Q : Int → yM → Prop} {M : yM} {x1 : Nat} {x2 : Int} {x3 : Int} {x5 : Int} {x7 : Int} {x8 : Int} {x9 : Int} {x10 : Int} {x11 : Int} {wx12 : Option yV} {wx13 : Option yV} (h1 : -2147483648 ≤ x11 ∧ x11 < 2147483648) (h2 : -2147483648 ≤ x2 ∧ x2 < 2147483648) (kt : x11 ≥ x2 → XW kX8_settles d (some .boolean) (wQi Q) 160 [some (.inr (.inr 21)), some (.inr (.inr x1)), some (.inl x2), some (.inr (.inl x3)), none, some (.inr (.inl x5)), none, some (.inl x7), some (.inl x8), some (.inl x9), some (.inl x10), some (.inl x11), wx12, wx13] [] M) (kf : x11 < x2 → XW kX8_settles d (some .boolean) (wQi Q) 65 [some (.inr (.inr 21)), some (.inr (.inr x1)), some (.inl x2), some (.inr (.inl x3)), none, some (.inr (.inl x5)), none, some (.inl x7), some (.inl x8), some (.inl x9), some (.inl x10), some (.inl x11), wx12, wx13] [] M) : XW kX8_settles d (some .boolean) (wQi Q) 59 [some (.inr (.inr 21)), some (.inr (.inr x1)), some (.inl x2), some (.inr (.inl x3)), none, some (.inr (.inl x5)), none, some (.inl x7), some (.inl x8), some (.inl x9), some (.inl x10), some (.inl x11), wx12, wx13] [] M := by
  refine x_iload rfl rfl ?_
  refine x_iload_n rfl rfl ?_
  exact x_icmpge rfl h1 h2 kt kf
theorem uX8_settles_65 {d : Nat} {Q : Int → yM → Prop} {M : yM} {x1 : Nat} {x2 : Int} {x3 : Int} {x5 : Int} {x7 : Int} {x8 : Int} {x9 : Int} {x10 : Int} {x11 : Int} {wx12 : Option yV} {wx13 : Option yV} (h1 : -2147483648 ≤ x11 ∧ x11 < 2147483648) (h2 : -2147483648 ≤ x9 ∧ x9 < 2147483648) (kt : x11 = x9 → XW kX8_settles d (some .boolean) (wQi Q) 154 [some (.inr (.inr 21)), some (.inr (.inr x1)), some (.inl x2), some (.inr (.inl x3)), none, some (.inr (.inl x5)), none, some (.inl x7), some (.inl x8), some (.inl x9), some (.inl x10), some (.inl x11), wx12, wx13] [] M) (kf : x11 ≠ x9 → XW kX8_settles d (some .boolean) (wQi Q) 72 [some (.inr (.inr 21)), some (.inr (.inr x1)), some (.inl x2), some (.inr (.inl x3)), none, some (.inr (.inl x5)), none, some (.inl x7), some (.inl x8), some (.inl x9), some (.inl x10), some (.inl x11), wx12, wx13] [] M) : XW kX8_settles d (some .boolean) (wQi Q) 65 [some (.inr (.inr 21)), some (.inr (.inr x1)), some (.inl x2), some (.inr (.inl x3)), none, some (.inr (.inl x5)), none, some (.inl x7), some (.inl x8), some (.inl x9), some (.inl x10), some (.inl x11), wx12, wx13] [] M := by
  refine x_iload rfl rfl ?_
  refine x_iload rfl rfl ?_
  exact x_icmpeq rfl h1 h2 kt kf
theorem uX8_settles_72 {d : Nat} {Q : Int → yM → Prop} {M : yM} {x1 : Nat} {x2 : Int} {x3 : Int} {x5 : Int} {x7 : Int} {x8 : Int} {x9 : Int} {x10 : Int} {x11 : Int} {wx12 : Option yV} {wx13 : Option yV} (h1 : -2147483648 ≤ x11 ∧ x11 < 2147483648) (h2 : -2147483648 ≤ x10 ∧ x10 < 2147483648) (kt : x11 ≠ x10 → XW kX8_settles d (some .boolean) (wQi Q) 82 [some (.inr (.inr 21)), some (.inr (.inr x1)), some (.inl x2), some (.inr (.inl x3)), none, some (.inr (.inl x5)), none, some (.inl x7), some (.inl x8), some (.inl x9), some (.inl x10), some (.inl x11), wx12, wx13] [] M) (kf : x11 = x10 → XW kX8_settles d (some .boolean) (wQi Q) 79 [some (.inr (.inr 21)), some (.inr (.inr x1)), some (.inl x2), some (.inr (.inl x3)), none, some (.inr (.inl x5)), none, some (.inl x7), some (.inl x8), some (.inl x9), some (.inl x10), some (.inl x11), wx12, wx13] [] M) : XW kX8_settles d (some .boolean) (wQi Q) 72 [some (.inr (.inr 21)), some (.inr (.inr x1)), some (.inl x2), some (.inr (.inl x3)), none, some (.inr (.inl x5)), none, some (.inl x7), some (.inl x8), some (.inl x9), some (.inl x10), some (.inl x11), wx12, wx13] [] M := by
  refine x_iload rfl rfl ?_
  refine x_iload rfl rfl ?_
  exact x_icmpne rfl h1 h2 kt kf
theorem uX8_settles_79 {d : Nat} {Q : Int → yM → Prop} {M : yM} {x1 : Nat} {x2 : Int} {x3 : Int} {x5 : Int} {x7 : Int} {x8 : Int} {x9 : Int} {x10 : Int} {x11 : Int} {wx12 : Option yV} {wx13 : Option yV} (k : XW kX8_settles d (some .boolean) (wQi Q) 154 [some (.inr (.inr 21)), some (.inr (.inr x1)), some (.inl x2), some (.inr (.inl x3)), none, some (.inr (.inl x5)), none, some (.inl x7), some (.inl x8), some (.inl x9), some (.inl x10), some (.inl x11), wx12, wx13] [] M) : XW kX8_settles d (some .boolean) (wQi Q) 79 [some (.inr (.inr 21)), some (.inr (.inr x1)), some (.inl x2), some (.inr (.inl x3)), none, some (.inr (.inl x5)), none, some (.inl x7), some (.inl x8), some (.inl x9), some (.inl x10), some (.inl x11), wx12, wx13] [] M := by
  exact x_goto rfl k
theorem uX8_settles_82 {d : Nat} {Q : Int → yM → Prop} {M : yM} {x1 : Nat} {x2 : Int} {x3 : Int} {x5 : Int} {x7 : Int} {x8 : Int} {x9 : Int} {x10 : Int} {x11 : Int} {wx12 : Option yV} {wx13 : Option yV} (k : XCi d 56 [.inr (.inr 21), .inr (.inr x1), .inl x9, .inl x10, .inl x11] M (fun v M' => XW kX8_settles (d + 1) (some .boolean) (wQi Q) 93 [some (.inr (.inr 21)), some (.inr (.inr x1)), some (.inl x2), some (.inr (.inl x3)), none, some (.inr (.inl x5)), none, some (.inl x7), some (.inl x8), some (.inl x9), some (.inl x10), some (.inl x11), wx12, wx13] [.inl v] M')) : XW kX8_settles (d + 1) (some .boolean) (wQi Q) 82 [some (.inr (.inr 21)), some (.inr (.inr x1)), some (.inl x2), some (.inr (.inl x3)), none, some (.inr (.inl x5)), none, some (.inl x7), some (.inl x8), some (.inl x9), some (.inl x10), some (.inl x11), wx12, wx13] [] M := by
  refine x_aload_n rfl rfl ?_
  refine x_aload_n rfl rfl ?_
  refine x_iload rfl rfl ?_
  refine x_iload rfl rfl ?_
  refine x_iload rfl rfl ?_
  exact x_calli (args := [.inr (.inr 21), .inr (.inr x1), .inl x9, .inl x10, .inl x11]) rfl rfl rfl k
theorem uX8_settles_93 {d : Nat} {Q : Int → yM → Prop} {M : yM} {x1 : Nat} {x2 : Int} {x3 : Int} {x5 : Int} {x7 : Int} {x8 : Int} {x9 : Int} {x10 : Int} {x11 : Int} {wx12 : Option yV} {wx13 : Option yV} {s0 : Int} (k : XCi d 56 [.inr (.inr 21), .inr (.inr x1), .inl x10, .inl x9, .inl x11] M (fun v M' => XW kX8_settles (d + 1) (some .boolean) (wQi Q) 106 [some (.inr (.inr 21)), some (.inr (.inr x1)), some (.inl x2), some (.inr (.inl x3)), none, some (.inr (.inl x5)), none, some (.inl x7), some (.inl x8), some (.inl x9), some (.inl x10), some (.inl x11), some (.inl s0), wx13] [.inl v] M')) : XW kX8_settles (d + 1) (some .boolean) (wQi Q) 93 [some (.inr (.inr 21)), some (.inr (.inr x1)), some (.inl x2), some (.inr (.inl x3)), none, some (.inr (.inl x5)), none, some (.inl x7), some (.inl x8), some (.inl x9), some (.inl x10), some (.inl x11), wx12, wx13] [.inl s0] M := by
  refine x_istore rfl (Nat.le_of_ble_eq_true rfl) rfl ?_
  refine x_aload_n rfl rfl ?_
  refine x_aload_n rfl rfl ?_
  refine x_iload rfl rfl ?_
  refine x_iload rfl rfl ?_
  refine x_iload rfl rfl ?_
  exact x_calli (args := [.inr (.inr 21), .inr (.inr x1), .inl x10, .inl x9, .inl x11]) rfl rfl rfl k
theorem uX8_settles_106 {d : Nat} {Q : Int → yM → Prop} {M : yM} {x1 : Nat} {x2 : Int} {x3 : Int} {x5 : Int} {x7 : Int} {x8 : Int} {x9 : Int} {x10 : Int} {x11 : Int} {x12 : Int} {wx13 : Option yV} {s0 : Int} (h1 : -2147483648 ≤ x12 ∧ x12 < 2147483648) (kt : x12 = 0 → XW kX8_settles d (some .boolean) (wQi Q) 118 [some (.inr (.inr 21)), some (.inr (.inr x1)), some (.inl x2), some (.inr (.inl x3)), none, some (.inr (.inl x5)), none, some (.inl x7), some (.inl x8), some (.inl x9), some (.inl x10), some (.inl x11), some (.inl x12), some (.inl s0)] [] M) (kf : x12 ≠ 0 → XW kX8_settles d (some .boolean) (wQi Q) 113 [some (.inr (.inr 21)), some (.inr (.inr x1)), some (.inl x2), some (.inr (.inl x3)), none, some (.inr (.inl x5)), none, some (.inl x7), some (.inl x8), some (.inl x9), some (.inl x10), some (.inl x11), some (.inl x12), some (.inl s0)] [] M) : XW kX8_settles d (some .boolean) (wQi Q) 106 [some (.inr (.inr 21)), some (.inr (.inr x1)), some (.inl x2), some (.inr (.inl x3)), none, some (.inr (.inl x5)), none, some (.inl x7), some (.inl x8), some (.inl x9), some (.inl x10), some (.inl x11), some (.inl x12), wx13] [.inl s0] M := by
  refine x_istore rfl (Nat.le_of_ble_eq_true rfl) rfl ?_
  refine x_iload rfl rfl ?_
  exact x_ifeq rfl h1 kt kf
theorem uX8_settles_113 {d : Nat} {Q : Int → yM → Prop} {M : yM} {x1 : Nat} {x2 : Int} {x3 : Int} {x5 : Int} {x7 : Int} {x8 : Int} {x9 : Int} {x10 : Int} {x11 : Int} {x12 : Int} {x13 : Int} (h1 : -2147483648 ≤ x13 ∧ x13 < 2147483648) (kt : x13 ≠ 0 → XW kX8_settles d (some .boolean) (wQi Q) 120 [some (.inr (.inr 21)), some (.inr (.inr x1)), some (.inl x2), some (.inr (.inl x3)), none, some (.inr (.inl x5)), none, some (.inl x7), some (.inl x8), some (.inl x9), some (.inl x10), some (.inl x11), some (.inl x12), some (.inl x13)] [] M) (kf : x13 = 0 → XW kX8_settles d (some .boolean) (wQi Q) 118 [some (.inr (.inr 21)), some (.inr (.inr x1)), some (.inl x2), some (.inr (.inl x3)), none, some (.inr (.inl x5)), none, some (.inl x7), some (.inl x8), some (.inl x9), some (.inl x10), some (.inl x11), some (.inl x12), some (.inl x13)] [] M) : XW kX8_settles d (some .boolean) (wQi Q) 113 [some (.inr (.inr 21)), some (.inr (.inr x1)), some (.inl x2), some (.inr (.inl x3)), none, some (.inr (.inl x5)), none, some (.inl x7), some (.inl x8), some (.inl x9), some (.inl x10), some (.inl x11), some (.inl x12), some (.inl x13)] [] M := by
  refine x_iload rfl rfl ?_
  exact x_ifne rfl h1 kt kf
theorem uX8_settles_118 {d : Nat} {Q : Int → yM → Prop} {M : yM} {x1 : Nat} {x2 : Int} {x3 : Int} {x5 : Int} {x7 : Int} {x8 : Int} {x9 : Int} {x10 : Int} {x11 : Int} {x12 : Int} {x13 : Int} (k : Q 0 M) : XW kX8_settles d (some .boolean) (wQi Q) 118 [some (.inr (.inr 21)), some (.inr (.inr x1)), some (.inl x2), some (.inr (.inl x3)), none, some (.inr (.inl x5)), none, some (.inl x7), some (.inl x8), some (.inl x9), some (.inl x10), some (.inl x11), some (.inl x12), some (.inl x13)] [] M := by
  refine x_iconst 0 rfl (by decide) ?_
  exact x_zreturn rfl (by decide) k
theorem uX8_settles_120 {d : Nat} {Q : Int → yM → Prop} {M : yM} {x1 : Nat} {x2 : Int} {x3 : Int} {x5 : Int} {x7 : Int} {x8 : Int} {x9 : Int} {x10 : Int} {x11 : Int} {x12 : Int} {x13 : Int} (h1 : -2147483648 ≤ x12 ∧ x12 < 2147483648) (kt : x12 ≤ 0 → XW kX8_settles d (some .boolean) (wQi Q) 137 [some (.inr (.inr 21)), some (.inr (.inr x1)), some (.inl x2), some (.inr (.inl x3)), none, some (.inr (.inl x5)), none, some (.inl x7), some (.inl x8), some (.inl x9), some (.inl x10), some (.inl x11), some (.inl x12), some (.inl x13)] [] M) (kf : x12 > 0 → XW kX8_settles d (some .boolean) (wQi Q) 125 [some (.inr (.inr 21)), some (.inr (.inr x1)), some (.inl x2), some (.inr (.inl x3)), none, some (.inr (.inl x5)), none, some (.inl x7), some (.inl x8), some (.inl x9), some (.inl x10), some (.inl x11), some (.inl x12), some (.inl x13)] [] M) : XW kX8_settles d (some .boolean) (wQi Q) 120 [some (.inr (.inr 21)), some (.inr (.inr x1)), some (.inl x2), some (.inr (.inl x3)), none, some (.inr (.inl x5)), none, some (.inl x7), some (.inl x8), some (.inl x9), some (.inl x10), some (.inl x11), some (.inl x12), some (.inl x13)] [] M := by
  refine x_iload rfl rfl ?_
  exact x_ifle rfl h1 kt kf
theorem uX8_settles_125 {d : Nat} {Q : Int → yM → Prop} {M : yM} {x1 : Nat} {x2 : Int} {x3 : Int} {x5 : Int} {x7 : Int} {x8 : Int} {x9 : Int} {x10 : Int} {x11 : Int} {x12 : Int} {x13 : Int} (k : XCl d 118 [.inl x9, .inl x11] M (fun v M' => XW kX8_settles (d + 1) (some .boolean) (wQi Q) 134 [some (.inr (.inr 21)), some (.inr (.inr x1)), some (.inl x2), some (.inr (.inl x3)), none, some (.inr (.inl x5)), none, some (.inl x7), some (.inl x8), some (.inl x9), some (.inl x10), some (.inl x11), some (.inl x12), some (.inl x13)] [.inr (.inl v), .inr (.inl x5)] M')) : XW kX8_settles (d + 1) (some .boolean) (wQi Q) 125 [some (.inr (.inr 21)), some (.inr (.inr x1)), some (.inl x2), some (.inr (.inl x3)), none, some (.inr (.inl x5)), none, some (.inl x7), some (.inl x8), some (.inl x9), some (.inl x10), some (.inl x11), some (.inl x12), some (.inl x13)] [] M := by
  refine x_lload rfl rfl ?_
  refine x_iload rfl rfl ?_
  refine x_iload rfl rfl ?_
  exact x_calll (args := [.inl x9, .inl x11]) rfl rfl rfl k
theorem uX8_settles_134 {d : Nat} {Q : Int → yM → Prop} {M : yM} {x1 : Nat} {x2 : Int} {x3 : Int} {x5 : Int} {x7 : Int} {x8 : Int} {x9 : Int} {x10 : Int} {x11 : Int} {x12 : Int} {x13 : Int} {s0 : Int} {s1 : Int} (k : XW kX8_settles d (some .boolean) (wQi Q) 137 [some (.inr (.inr 21)), some (.inr (.inr x1)), some (.inl x2), some (.inr (.inl x3)), none, some (.inr (.inl (zor s1 s0))), none, some (.inl x7), some (.inl x8), some (.inl x9), some (.inl x10), some (.inl x11), some (.inl x12), some (.inl x13)] [] M) : XW kX8_settles d (some .boolean) (wQi Q) 134 [some (.inr (.inr 21)), some (.inr (.inr x1)), some (.inl x2), some (.inr (.inl x3)), none, some (.inr (.inl x5)), none, some (.inl x7), some (.inl x8), some (.inl x9), some (.inl x10), some (.inl x11), some (.inl x12), some (.inl x13)] [.inr (.inl s0), .inr (.inl s1)] M := by
  refine x_lor rfl ?_
  refine x_lstore rfl (Nat.le_of_ble_eq_true rfl) rfl ?_
  exact k
theorem uX8_settles_137 {d : Nat} {Q : Int → yM → Prop} {M : yM} {x1 : Nat} {x2 : Int} {x3 : Int} {x5 : Int} {x7 : Int} {x8 : Int} {x9 : Int} {x10 : Int} {x11 : Int} {x12 : Int} {x13 : Int} (h1 : -2147483648 ≤ x13 ∧ x13 < 2147483648) (kt : x13 ≤ 0 → XW kX8_settles d (some .boolean) (wQi Q) 154 [some (.inr (.inr 21)), some (.inr (.inr x1)), some (.inl x2), some (.inr (.inl x3)), none, some (.inr (.inl x5)), none, some (.inl x7), some (.inl x8), some (.inl x9), some (.inl x10), some (.inl x11), some (.inl x12), some (.inl x13)] [] M) (kf : x13 > 0 → XW kX8_settles d (some .boolean) (wQi Q) 142 [some (.inr (.inr 21)), some (.inr (.inr x1)), some (.inl x2), some (.inr (.inl x3)), none, some (.inr (.inl x5)), none, some (.inl x7), some (.inl x8), some (.inl x9), some (.inl x10), some (.inl x11), some (.inl x12), some (.inl x13)] [] M) : XW kX8_settles d (some .boolean) (wQi Q) 137 [some (.inr (.inr 21)), some (.inr (.inr x1)), some (.inl x2), some (.inr (.inl x3)), none, some (.inr (.inl x5)), none, some (.inl x7), some (.inl x8), some (.inl x9), some (.inl x10), some (.inl x11), some (.inl x12), some (.inl x13)] [] M := by
  refine x_iload rfl rfl ?_
  exact x_ifle rfl h1 kt kf
theorem uX8_settles_142 {d : Nat} {Q : Int → yM → Prop} {M : yM} {x1 : Nat} {x2 : Int} {x3 : Int} {x5 : Int} {x7 : Int} {x8 : Int} {x9 : Int} {x10 : Int} {x11 : Int} {x12 : Int} {x13 : Int} (k : XCl d 118 [.inl x10, .inl x11] M (fun v M' => XW kX8_settles (d + 1) (some .boolean) (wQi Q) 151 [some (.inr (.inr 21)), some (.inr (.inr x1)), some (.inl x2), some (.inr (.inl x3)), none, some (.inr (.inl x5)), none, some (.inl x7), some (.inl x8), some (.inl x9), some (.inl x10), some (.inl x11), some (.inl x12), some (.inl x13)] [.inr (.inl v), .inr (.inl x5)] M')) : XW kX8_settles (d + 1) (some .boolean) (wQi Q) 142 [some (.inr (.inr 21)), some (.inr (.inr x1)), some (.inl x2), some (.inr (.inl x3)), none, some (.inr (.inl x5)), none, some (.inl x7), some (.inl x8), some (.inl x9), some (.inl x10), some (.inl x11), some (.inl x12), some (.inl x13)] [] M := by
  refine x_lload rfl rfl ?_
  refine x_iload rfl rfl ?_
  refine x_iload rfl rfl ?_
  exact x_calll (args := [.inl x10, .inl x11]) rfl rfl rfl k
theorem uX8_settles_151 {d : Nat} {Q : Int → yM → Prop} {M : yM} {x1 : Nat} {x2 : Int} {x3 : Int} {x5 : Int} {x7 : Int} {x8 : Int} {x9 : Int} {x10 : Int} {x11 : Int} {x12 : Int} {x13 : Int} {s0 : Int} {s1 : Int} (k : XW kX8_settles d (some .boolean) (wQi Q) 154 [some (.inr (.inr 21)), some (.inr (.inr x1)), some (.inl x2), some (.inr (.inl x3)), none, some (.inr (.inl (zor s1 s0))), none, some (.inl x7), some (.inl x8), some (.inl x9), some (.inl x10), some (.inl x11), some (.inl x12), some (.inl x13)] [] M) : XW kX8_settles d (some .boolean) (wQi Q) 151 [some (.inr (.inr 21)), some (.inr (.inr x1)), some (.inl x2), some (.inr (.inl x3)), none, some (.inr (.inl x5)), none, some (.inl x7), some (.inl x8), some (.inl x9), some (.inl x10), some (.inl x11), some (.inl x12), some (.inl x13)] [.inr (.inl s0), .inr (.inl s1)] M := by
  refine x_lor rfl ?_
  refine x_lstore rfl (Nat.le_of_ble_eq_true rfl) rfl ?_
  exact k
theorem uX8_settles_154 {d : Nat} {Q : Int → yM → Prop} {M : yM} {x1 : Nat} {x2 : Int} {x3 : Int} {x5 : Int} {x7 : Int} {x8 : Int} {x9 : Int} {x10 : Int} {x11 : Int} {wx12 : Option yV} {wx13 : Option yV} (k : XW kX8_settles d (some .boolean) (wQi Q) 59 [some (.inr (.inr 21)), some (.inr (.inr x1)), some (.inl x2), some (.inr (.inl x3)), none, some (.inr (.inl x5)), none, some (.inl x7), some (.inl x8), some (.inl x9), some (.inl x10), some (.inl (x11 + 1)), wx12, wx13] [] M) : XW kX8_settles d (some .boolean) (wQi Q) 154 [some (.inr (.inr 21)), some (.inr (.inr x1)), some (.inl x2), some (.inr (.inl x3)), none, some (.inr (.inl x5)), none, some (.inl x7), some (.inl x8), some (.inl x9), some (.inl x10), some (.inl x11), wx12, wx13] [] M := by
  refine x_iinc 1 rfl (by decide) rfl rfl ?_
  exact x_goto rfl k
theorem uX8_settles_160 {d : Nat} {Q : Int → yM → Prop} {M : yM} {x1 : Nat} {x2 : Int} {x3 : Int} {x5 : Int} {x7 : Int} {x8 : Int} {x9 : Int} {x10 : Int} {x11 : Int} {wx12 : Option yV} {wx13 : Option yV} (k : XW kX8_settles d (some .boolean) (wQi Q) 6 [some (.inr (.inr 21)), some (.inr (.inr x1)), some (.inl x2), some (.inr (.inl x3)), none, some (.inr (.inl x5)), none, some (.inl (x7 + 1)), some (.inl x8), some (.inl x9), some (.inl x10), some (.inl x11), wx12, wx13] [] M) : XW kX8_settles d (some .boolean) (wQi Q) 160 [some (.inr (.inr 21)), some (.inr (.inr x1)), some (.inl x2), some (.inr (.inl x3)), none, some (.inr (.inl x5)), none, some (.inl x7), some (.inl x8), some (.inl x9), some (.inl x10), some (.inl x11), wx12, wx13] [] M := by
  refine x_iinc 1 rfl (by decide) rfl rfl ?_
  exact x_goto rfl k
theorem uX8_settles_166 {d : Nat} {Q : Int → yM → Prop} {M : yM} {x1 : Nat} {x2 : Int} {x3 : Int} {x5 : Int} {x7 : Int} {wx8 : Option yV} {wx9 : Option yV} {wx10 : Option yV} {wx11 : Option yV} {wx12 : Option yV} {wx13 : Option yV} (k : Q 1 M) : XW kX8_settles d (some .boolean) (wQi Q) 166 [some (.inr (.inr 21)), some (.inr (.inr x1)), some (.inl x2), some (.inr (.inl x3)), none, some (.inr (.inl x5)), none, some (.inl x7), wx8, wx9, wx10, wx11, wx12, wx13] [] M := by
  refine x_iconst 1 rfl (by decide) ?_
  exact x_zreturn rfl (by decide) k
theorem eX8_makeSingle {d : Nat} {Q : yM → Prop} {M : yM} {x1 : Nat} {x2 : Int} {x3 : Int}  (h : XW kX8_makeSingle d none (wQv Q) 0 [some (.inr (.inr 21)), some (.inr (.inr x1)), some (.inl x2), some (.inl x3), none] [] M) : XCv d 58 [.inr (.inr 21), .inr (.inr x1), .inl x2, .inl x3] M Q :=
  XC.ofW (Mm := (yX8_makeSingle, cX8_makeSingle, 5, none, 9, kX8_makeSingle)) rfl (rcv_ok sh21) rfl rfl h
theorem uX8_makeSingle_0 {d : Nat} {Q : yM → Prop} {M : yM} {x1 : Nat} {x2 : Int} {x3 : Int} (h1 : arrSh x1 64) (h2 : 0 ≤ x2 ∧ x2 < 64) (k : ∀ M', M' = (put M x1 x2 (yshl 1 x3)) → XW kX8_makeSingle d none (wQv Q) 19 [some (.inr (.inr 21)), some (.inr (.inr x1)), some (.inl x2), some (.inl x3), some (.inl ((8 * (yand x2 7)) + (yshr x2 3)))] [] M') : XW kX8_makeSingle d none (wQv Q) 0 [some (.inr (.inr 21)), some (.inr (.inr x1)), some (.inl x2), some (.inl x3), none] [] M := by
  refine x_bipush 8 rfl (by decide) ?_
  refine x_iload_n rfl rfl ?_
  refine x_bipush 7 rfl (by decide) ?_
  refine x_iand rfl ?_
  refine x_imul rfl ?_
  refine x_iload_n rfl rfl ?_
  refine x_iconst 3 rfl (by decide) ?_
  refine x_ishr rfl ?_
  refine x_iadd rfl ?_
  refine x_istore rfl (Nat.le_of_ble_eq_true rfl) rfl ?_
  refine x_aload_n rfl rfl ?_
  refine x_iload_n rfl rfl ?_
  refine x_iconst 1 rfl (by decide) ?_
  refine x_iload_n rfl rfl ?_
  refine x_ishl rfl ?_
  refine x_iastore rfl h1 h2  ?_
  exact k _ rfl
theorem uX8_makeSingle_19 {d : Nat} {Q : yM → Prop} {M : yM} {x1 : Nat} {x2 : Int} {x3 : Int} {x4 : Int} (k : XCi d 70 [.inr (.inr 1), .inl (yshl 1 x3)] M (fun v M' => XW kX8_makeSingle (d + 1) none (wQv Q) 32 [some (.inr (.inr 21)), some (.inr (.inr x1)), some (.inl x2), some (.inl x3), some (.inl x4)] [.inl v, .inl x4, .inr (.inr x1)] M')) : XW kX8_makeSingle (d + 1) none (wQv Q) 19 [some (.inr (.inr 21)), some (.inr (.inr x1)), some (.inl x2), some (.inl x3), some (.inl x4)] [] M := by
  refine x_aload_n rfl rfl ?_
  refine x_iload rfl rfl ?_
  refine x_aload_n rfl rfl ?_
  refine x_getR rfl sh21 rfl ?_
  refine x_iconst 1 rfl (by decide) ?_
  refine x_iload_n rfl rfl ?_
  refine x_ishl rfl ?_
  exact x_calli (args := [.inr (.inr 1), .inl (yshl 1 x3)]) rfl rfl rfl k
theorem uX8_makeSingle_32 {d : Nat} {Q : yM → Prop} {M : yM} {x1 : Nat} {x2 : Int} {x3 : Int} {x4 : Int} {s0 : Int} {s1 : Int} {s2 : Nat} (h1 : arrSh s2 64) (h2 : 0 ≤ s1 ∧ s1 < 64) (k : ∀ M', M' = (put M s2 s1 s0) → XW kX8_makeSingle d none (wQv Q) 33 [some (.inr (.inr 21)), some (.inr (.inr x1)), some (.inl x2), some (.inl x3), some (.inl x4)] [] M') : XW kX8_makeSingle d none (wQv Q) 32 [some (.inr (.inr 21)), some (.inr (.inr x1)), some (.inl x2), some (.inl x3), some (.inl x4)] [.inl s0, .inl s1, .inr (.inr s2)] M := by
  refine x_iastore rfl h1 h2  ?_
  exact k _ rfl
theorem uX8_makeSingle_33 {d : Nat} {Q : yM → Prop} {M : yM} {x1 : Nat} {x2 : Int} {x3 : Int} {x4 : Int} (k : Q M) : XW kX8_makeSingle d none (wQv Q) 33 [some (.inr (.inr 21)), some (.inr (.inr x1)), some (.inl x2), some (.inl x3), some (.inl x4)] [] M := by
  exact x_return rfl k
