theorem eX3_howMany {d : Nat} {Q : Int → yM → Prop} {M : yM}   (h : XW kX3_howMany d (some .int) (wQi Q) 0 [some (.inr (.inr 65))] [] M) : XCi d 21 [.inr (.inr 65)] M Q :=
  XC.ofW (Mm := (yX3_howMany, cX3_howMany, 1, (some .int), 4, kX3_howMany)) rfl (rcv_ok sh65) rfl rfl h
theorem uX3_howMany_0 {d : Nat} {Q : Int → yM → Prop} {M : yM}  (kt : (ld M 65 6) ≠ 0 → XW kX3_howMany d (some .int) (wQi Q) 59 [some (.inr (.inr 65))] [] M) (kf : (ld M 65 6) = 0 → XW kX3_howMany d (some .int) (wQi Q) 7 [some (.inr (.inr 65))] [] M) : XW kX3_howMany d (some .int) (wQi Q) 0 [some (.inr (.inr 65))] [] M := by
  refine x_aload_n rfl rfl ?_
  refine x_getI rfl sh65 rfl ?_
  exact x_ifne rfl (rng_ld _ _ _) kt kf
theorem uX3_howMany_7 {d : Nat} {Q : Int → yM → Prop} {M : yM}  (k : XCi d 46 [.inr (.inr 22), .inr (.inr 20), .inl (ld M 19 0), .inl 20001, .inl 0] M (fun v M' => XW kX3_howMany (d + 1) (some .int) (wQi Q) 33 [some (.inr (.inr 65))] [.inl v, .inr (.inr 65)] M')) : XW kX3_howMany (d + 1) (some .int) (wQi Q) 7 [some (.inr (.inr 65))] [] M := by
  refine x_aload_n rfl rfl ?_
  refine x_aload_n rfl rfl ?_
  refine x_getR rfl sh65 rfl ?_
  refine x_aload_n rfl rfl ?_
  refine x_getR rfl sh65 rfl ?_
  refine x_getR rfl sh19 rfl ?_
  refine x_aload_n rfl rfl ?_
  refine x_getR rfl sh65 rfl ?_
  refine x_getI rfl sh19 rfl ?_
  refine x_sipush 20001 rfl (by decide) ?_
  refine x_iconst 0 rfl (by decide) ?_
  exact x_calli (args := [.inr (.inr 22), .inr (.inr 20), .inl (ld M 19 0), .inl 20001, .inl 0]) rfl rfl rfl k
theorem uX3_howMany_33 {d : Nat} {Q : Int → yM → Prop} {M : yM} {s0 : Int} (k : ∀ M', M' = (put M 65 5 s0) → XW kX3_howMany d (some .int) (wQi Q) 36 [some (.inr (.inr 65))] [] M') : XW kX3_howMany d (some .int) (wQi Q) 33 [some (.inr (.inr 65))] [.inl s0, .inr (.inr 65)] M := by
  refine x_putI rfl rfl sh65 rfl ?_
  exact k _ rfl
theorem uX3_howMany_36 {d : Nat} {Q : Int → yM → Prop} {M : yM}  (k : ∀ M', M' = (cpy M 53 66 0 0 64) → XW kX3_howMany d (some .int) (wQi Q) 54 [some (.inr (.inr 65))] [] M') : XW kX3_howMany d (some .int) (wQi Q) 36 [some (.inr (.inr 65))] [] M := by
  refine x_aload_n rfl rfl ?_
  refine x_getR rfl sh65 rfl ?_
  refine x_getR rfl sh22 rfl ?_
  refine x_iconst 0 rfl (by decide) ?_
  refine x_aload_n rfl rfl ?_
  refine x_getR rfl sh65 rfl ?_
  refine x_iconst 0 rfl (by decide) ?_
  refine x_bipush 64 rfl (by decide) ?_
  refine x_cpy rfl ⟨sh53, Nat.le_of_ble_eq_true rfl⟩ ⟨sh66, Nat.le_of_ble_eq_true rfl⟩ (by decide) (Nat.le_of_ble_eq_true rfl) ?_
  exact k _ rfl
theorem uX3_howMany_54 {d : Nat} {Q : Int → yM → Prop} {M : yM}  (k : ∀ M', M' = (put M 65 6 1) → XW kX3_howMany d (some .int) (wQi Q) 59 [some (.inr (.inr 65))] [] M') : XW kX3_howMany d (some .int) (wQi Q) 54 [some (.inr (.inr 65))] [] M := by
  refine x_aload_n rfl rfl ?_
  refine x_iconst 1 rfl (by decide) ?_
  refine x_putZ rfl rfl sh65 rfl (by decide) ?_
  exact k _ rfl
theorem uX3_howMany_59 {d : Nat} {Q : Int → yM → Prop} {M : yM}  (k : Q (ld M 65 5) M) : XW kX3_howMany d (some .int) (wQi Q) 59 [some (.inr (.inr 65))] [] M := by
  refine x_aload_n rfl rfl ?_
  refine x_getI rfl sh65 rfl ?_
  exact x_ireturn rfl k
theorem eX3_areThere {d : Nat} {Q : Int → yM → Prop} {M : yM}   (h : XW kX3_areThere d (some .boolean) (wQi Q) 0 [some (.inr (.inr 65))] [] M) : XCi d 22 [.inr (.inr 65)] M Q :=
  XC.ofW (Mm := (yX3_areThere, cX3_areThere, 1, (some .boolean), 4, kX3_areThere)) rfl (rcv_ok sh65) rfl rfl h
theorem uX3_areThere_0 {d : Nat} {Q : Int → yM → Prop} {M : yM}  (kt : (ld M 65 8) ≠ 0 → XW kX3_areThere d (some .boolean) (wQi Q) 65 [some (.inr (.inr 65))] [] M) (kf : (ld M 65 8) = 0 → XW kX3_areThere d (some .boolean) (wQi Q) 7 [some (.inr (.inr 65))] [] M) : XW kX3_areThere d (some .boolean) (wQi Q) 0 [some (.inr (.inr 65))] [] M := by
  refine x_aload_n rfl rfl ?_
  refine x_getI rfl sh65 rfl ?_
  exact x_ifne rfl (rng_ld _ _ _) kt kf
theorem uX3_areThere_7 {d : Nat} {Q : Int → yM → Prop} {M : yM}  (k : XCi d 46 [.inr (.inr 22), .inr (.inr 20), .inl (ld M 19 0), .inl 1, .inl 0] M (fun v M' => XW kX3_areThere (d + 1) (some .boolean) (wQi Q) 31 [some (.inr (.inr 65))] [.inl v, .inr (.inr 65)] M')) : XW kX3_areThere (d + 1) (some .boolean) (wQi Q) 7 [some (.inr (.inr 65))] [] M := by
  refine x_aload_n rfl rfl ?_
  refine x_aload_n rfl rfl ?_
  refine x_getR rfl sh65 rfl ?_
  refine x_aload_n rfl rfl ?_
  refine x_getR rfl sh65 rfl ?_
  refine x_getR rfl sh19 rfl ?_
  refine x_aload_n rfl rfl ?_
  refine x_getR rfl sh65 rfl ?_
  refine x_getI rfl sh19 rfl ?_
  refine x_iconst 1 rfl (by decide) ?_
  refine x_iconst 0 rfl (by decide) ?_
  exact x_calli (args := [.inr (.inr 22), .inr (.inr 20), .inl (ld M 19 0), .inl 1, .inl 0]) rfl rfl rfl k
theorem uX3_areThere_31 {d : Nat} {Q : Int → yM → Prop} {M : yM} {s0 : Int} (h1 : -2147483648 ≤ s0 ∧ s0 < 2147483648) (kt : s0 ≤ 0 → XW kX3_areThere d (some .boolean) (wQi Q) 38 [some (.inr (.inr 65))] [.inr (.inr 65)] M) (kf : s0 > 0 → XW kX3_areThere d (some .boolean) (wQi Q) 34 [some (.inr (.inr 65))] [.inr (.inr 65)] M) : XW kX3_areThere d (some .boolean) (wQi Q) 31 [some (.inr (.inr 65))] [.inl s0, .inr (.inr 65)] M := by
  exact x_ifle rfl h1 kt kf
theorem uX3_areThere_34 {d : Nat} {Q : Int → yM → Prop} {M : yM}  (k : XW kX3_areThere d (some .boolean) (wQi Q) 39 [some (.inr (.inr 65))] [.inl 1, .inr (.inr 65)] M) : XW kX3_areThere d (some .boolean) (wQi Q) 34 [some (.inr (.inr 65))] [.inr (.inr 65)] M := by
  refine x_iconst 1 rfl (by decide) ?_
  exact x_goto rfl k
theorem uX3_areThere_38 {d : Nat} {Q : Int → yM → Prop} {M : yM}  (k : XW kX3_areThere d (some .boolean) (wQi Q) 39 [some (.inr (.inr 65))] [.inl 0, .inr (.inr 65)] M) : XW kX3_areThere d (some .boolean) (wQi Q) 38 [some (.inr (.inr 65))] [.inr (.inr 65)] M := by
  refine x_iconst 0 rfl (by decide) ?_
  exact k
theorem uX3_areThere_39 {d : Nat} {Q : Int → yM → Prop} {M : yM} {s0 : Int} (h1 : s0 = 0 ∨ s0 = 1) (k : ∀ M', M' = (put M 65 7 s0) → XW kX3_areThere d (some .boolean) (wQi Q) 42 [some (.inr (.inr 65))] [] M') : XW kX3_areThere d (some .boolean) (wQi Q) 39 [some (.inr (.inr 65))] [.inl s0, .inr (.inr 65)] M := by
  refine x_putZ rfl rfl sh65 rfl h1 ?_
  exact k _ rfl
theorem uX3_areThere_42 {d : Nat} {Q : Int → yM → Prop} {M : yM}  (k : ∀ M', M' = (cpy M 54 67 0 0 64) → XW kX3_areThere d (some .boolean) (wQi Q) 60 [some (.inr (.inr 65))] [] M') : XW kX3_areThere d (some .boolean) (wQi Q) 42 [some (.inr (.inr 65))] [] M := by
  refine x_aload_n rfl rfl ?_
  refine x_getR rfl sh65 rfl ?_
  refine x_getR rfl sh22 rfl ?_
  refine x_iconst 0 rfl (by decide) ?_
  refine x_aload_n rfl rfl ?_
  refine x_getR rfl sh65 rfl ?_
  refine x_iconst 0 rfl (by decide) ?_
  refine x_bipush 64 rfl (by decide) ?_
  refine x_cpy rfl ⟨sh54, Nat.le_of_ble_eq_true rfl⟩ ⟨sh67, Nat.le_of_ble_eq_true rfl⟩ (by decide) (Nat.le_of_ble_eq_true rfl) ?_
  exact k _ rfl
theorem uX3_areThere_60 {d : Nat} {Q : Int → yM → Prop} {M : yM}  (k : ∀ M', M' = (put M 65 8 1) → XW kX3_areThere d (some .boolean) (wQi Q) 65 [some (.inr (.inr 65))] [] M') : XW kX3_areThere d (some .boolean) (wQi Q) 60 [some (.inr (.inr 65))] [] M := by
  refine x_aload_n rfl rfl ?_
  refine x_iconst 1 rfl (by decide) ?_
  refine x_putZ rfl rfl sh65 rfl (by decide) ?_
  exact k _ rfl
theorem uX3_areThere_65 {d : Nat} {Q : Int → yM → Prop} {M : yM}  (h1 : (ld M 65 7) = 0 ∨ (ld M 65 7) = 1) (k : Q (ld M 65 7) M) : XW kX3_areThere d (some .boolean) (wQi Q) 65 [some (.inr (.inr 65))] [] M := by
  refine x_aload_n rfl rfl ?_
  refine x_getI rfl sh65 rfl ?_
  exact x_zreturn rfl h1 k
theorem eX3_findLeast {d : Nat} {Q : Int → yM → Prop} {M : yM}   (h : XW kX3_findLeast d (some .boolean) (wQi Q) 0 [some (.inr (.inr 65)), none, none] [] M) : XCi d 23 [.inr (.inr 65)] M Q :=
  XC.ofW (Mm := (yX3_findLeast, cX3_findLeast, 3, (some .boolean), 4, kX3_findLeast)) rfl (rcv_ok sh65) rfl rfl h
theorem uX3_findLeast_0 {d : Nat} {Q : Int → yM → Prop} {M : yM}  (k : XCi d 22 [.inr (.inr 65)] M (fun v M' => XW kX3_findLeast (d + 1) (some .boolean) (wQi Q) 4 [some (.inr (.inr 65)), none, none] [.inl v] M')) : XW kX3_findLeast (d + 1) (some .boolean) (wQi Q) 0 [some (.inr (.inr 65)), none, none] [] M := by
  refine x_aload_n rfl rfl ?_
  exact x_calli (args := [.inr (.inr 65)]) rfl rfl rfl k
theorem uX3_findLeast_4 {d : Nat} {Q : Int → yM → Prop} {M : yM} {s0 : Int} (h1 : -2147483648 ≤ s0 ∧ s0 < 2147483648) (kt : s0 = 0 → XW kX3_findLeast d (some .boolean) (wQi Q) 87 [some (.inr (.inr 65)), none, none] [] M) (kf : s0 ≠ 0 → XW kX3_findLeast d (some .boolean) (wQi Q) 7 [some (.inr (.inr 65)), none, none] [] M) : XW kX3_findLeast d (some .boolean) (wQi Q) 4 [some (.inr (.inr 65)), none, none] [.inl s0] M := by
  exact x_ifeq rfl h1 kt kf
theorem uX3_findLeast_7 {d : Nat} {Q : Int → yM → Prop} {M : yM}  (kt : (ld M 65 9) ≠ 0 → XW kX3_findLeast d (some .boolean) (wQi Q) 87 [some (.inr (.inr 65)), none, none] [] M) (kf : (ld M 65 9) = 0 → XW kX3_findLeast d (some .boolean) (wQi Q) 14 [some (.inr (.inr 65)), none, none] [] M) : XW kX3_findLeast d (some .boolean) (wQi Q) 7 [some (.inr (.inr 65)), none, none] [] M := by
  refine x_aload_n rfl rfl ?_
  refine x_getI rfl sh65 rfl ?_
  exact x_ifne rfl (rng_ld _ _ _) kt kf
theorem uX3_findLeast_14 {d : Nat} {Q : Int → yM → Prop} {M : yM}  (k : ∀ M', M' = (cpy M 20 68 0 0 64) → XW kX3_findLeast d (some .boolean) (wQi Q) 32 [some (.inr (.inr 65)), none, none] [] M') : XW kX3_findLeast d (some .boolean) (wQi Q) 14 [some (.inr (.inr 65)), none, none] [] M := by
  refine x_aload_n rfl rfl ?_
  refine x_getR rfl sh65 rfl ?_
  refine x_getR rfl sh19 rfl ?_
  refine x_iconst 0 rfl (by decide) ?_
  refine x_aload_n rfl rfl ?_
  refine x_getR rfl sh65 rfl ?_
  refine x_iconst 0 rfl (by decide) ?_
  refine x_bipush 64 rfl (by decide) ?_
  refine x_cpy rfl ⟨sh20, Nat.le_of_ble_eq_true rfl⟩ ⟨sh68, Nat.le_of_ble_eq_true rfl⟩ (by decide) (Nat.le_of_ble_eq_true rfl) ?_
  exact k _ rfl
theorem uX3_findLeast_32 {d : Nat} {Q : Int → yM → Prop} {M : yM}  (k : XW kX3_findLeast d (some .boolean) (wQi Q) 34 [some (.inr (.inr 65)), some (.inl 0), none] [] M) : XW kX3_findLeast d (some .boolean) (wQi Q) 32 [some (.inr (.inr 65)), none, none] [] M := by
  refine x_iconst 0 rfl (by decide) ?_
  refine x_istore_n rfl (Nat.le_of_ble_eq_true rfl) rfl ?_
  exact k
theorem uX3_findLeast_34 {d : Nat} {Q : Int → yM → Prop} {M : yM} {x1 : Int} {wx2 : Option yV} (h1 : -2147483648 ≤ x1 ∧ x1 < 2147483648) (kt : x1 ≥ (ld M 19 0) → XW kX3_findLeast d (some .boolean) (wQi Q) 82 [some (.inr (.inr 65)), some (.inl x1), wx2] [] M) (kf : x1 < (ld M 19 0) → XW kX3_findLeast d (some .boolean) (wQi Q) 45 [some (.inr (.inr 65)), some (.inl x1), wx2] [] M) : XW kX3_findLeast d (some .boolean) (wQi Q) 34 [some (.inr (.inr 65)), some (.inl x1), wx2] [] M := by
  refine x_iload_n rfl rfl ?_
  refine x_aload_n rfl rfl ?_
  refine x_getR rfl sh65 rfl ?_
  refine x_getI rfl sh19 rfl ?_
  exact x_icmpge rfl h1 (rng_ld _ _ _) kt kf
theorem uX3_findLeast_45 {d : Nat} {Q : Int → yM → Prop} {M : yM} {x1 : Int} {wx2 : Option yV} (k : XW kX3_findLeast d (some .boolean) (wQi Q) 49 [some (.inr (.inr 65)), some (.inl x1), some (.inl (x1 + 1))] [] M) : XW kX3_findLeast d (some .boolean) (wQi Q) 45 [some (.inr (.inr 65)), some (.inl x1), wx2] [] M := by
  refine x_iload_n rfl rfl ?_
  refine x_iconst 1 rfl (by decide) ?_
  refine x_iadd rfl ?_
  refine x_istore_n rfl (Nat.le_of_ble_eq_true rfl) rfl ?_
  exact k
theorem uX3_findLeast_49 {d : Nat} {Q : Int → yM → Prop} {M : yM} {x1 : Int} {x2 : Int} (h1 : -2147483648 ≤ x2 ∧ x2 < 2147483648) (kt : x2 ≥ (ld M 19 0) → XW kX3_findLeast d (some .boolean) (wQi Q) 76 [some (.inr (.inr 65)), some (.inl x1), some (.inl x2)] [] M) (kf : x2 < (ld M 19 0) → XW kX3_findLeast d (some .boolean) (wQi Q) 60 [some (.inr (.inr 65)), some (.inl x1), some (.inl x2)] [] M) : XW kX3_findLeast d (some .boolean) (wQi Q) 49 [some (.inr (.inr 65)), some (.inl x1), some (.inl x2)] [] M := by
  refine x_iload_n rfl rfl ?_
  refine x_aload_n rfl rfl ?_
  refine x_getR rfl sh65 rfl ?_
  refine x_getI rfl sh19 rfl ?_
  exact x_icmpge rfl h1 (rng_ld _ _ _) kt kf
theorem uX3_findLeast_60 {d : Nat} {Q : Int → yM → Prop} {M : yM} {x1 : Int} {x2 : Int} (k : XCv d 24 [.inr (.inr 65), .inl ((8 * x1) + x2)] M (fun M' => XW kX3_findLeast (d + 1) (some .boolean) (wQi Q) 70 [some (.inr (.inr 65)), some (.inl x1), some (.inl x2)] [] M')) : XW kX3_findLeast (d + 1) (some .boolean) (wQi Q) 60 [some (.inr (.inr 65)), some (.inl x1), some (.inl x2)] [] M := by
  refine x_aload_n rfl rfl ?_
  refine x_bipush 8 rfl (by decide) ?_
  refine x_iload_n rfl rfl ?_
  refine x_imul rfl ?_
  refine x_iload_n rfl rfl ?_
  refine x_iadd rfl ?_
  exact x_callv (args := [.inr (.inr 65), .inl ((8 * x1) + x2)]) rfl rfl rfl k
theorem uX3_findLeast_70 {d : Nat} {Q : Int → yM → Prop} {M : yM} {x1 : Int} {x2 : Int} (k : XW kX3_findLeast d (some .boolean) (wQi Q) 49 [some (.inr (.inr 65)), some (.inl x1), some (.inl (x2 + 1))] [] M) : XW kX3_findLeast d (some .boolean) (wQi Q) 70 [some (.inr (.inr 65)), some (.inl x1), some (.inl x2)] [] M := by
  refine x_iinc 1 rfl (by decide) rfl rfl ?_
  exact x_goto rfl k
theorem uX3_findLeast_76 {d : Nat} {Q : Int → yM → Prop} {M : yM} {x1 : Int} {x2 : Int} (k : XW kX3_findLeast d (some .boolean) (wQi Q) 34 [some (.inr (.inr 65)), some (.inl (x1 + 1)), some (.inl x2)] [] M) : XW kX3_findLeast d (some .boolean) (wQi Q) 76 [some (.inr (.inr 65)), some (.inl x1), some (.inl x2)] [] M := by
  refine x_iinc 1 rfl (by decide) rfl rfl ?_
  exact x_goto rfl k
theorem uX3_findLeast_82 {d : Nat} {Q : Int → yM → Prop} {M : yM} {x1 : Int} {wx2 : Option yV} (k : ∀ M', M' = (put M 65 9 1) → XW kX3_findLeast d (some .boolean) (wQi Q) 87 [some (.inr (.inr 65)), some (.inl x1), wx2] [] M') : XW kX3_findLeast d (some .boolean) (wQi Q) 82 [some (.inr (.inr 65)), some (.inl x1), wx2] [] M := by
  refine x_aload_n rfl rfl ?_
  refine x_iconst 1 rfl (by decide) ?_
  refine x_putZ rfl rfl sh65 rfl (by decide) ?_
  exact k _ rfl
theorem uX3_findLeast_87 {d : Nat} {Q : Int → yM → Prop} {M : yM} {wx1 : Option yV} {wx2 : Option yV} (h1 : (ld M 65 7) = 0 ∨ (ld M 65 7) = 1) (k : Q (ld M 65 7) M) : XW kX3_findLeast d (some .boolean) (wQi Q) 87 [some (.inr (.inr 65)), wx1, wx2] [] M := by
  refine x_aload_n rfl rfl ?_
  refine x_getI rfl sh65 rfl ?_
  exact x_zreturn rfl h1 k
theorem eX3_fixLeast {d : Nat} {Q : yM → Prop} {M : yM} {x1 : Int}  (h : XW kX3_fixLeast d none (wQv Q) 0 [some (.inr (.inr 65)), some (.inl x1), none, none, none, none] [] M) : XCv d 24 [.inr (.inr 65), .inl x1] M Q :=
  XC.ofW (Mm := (yX3_fixLeast, cX3_fixLeast, 6, none, 4, kX3_fixLeast)) rfl (rcv_ok sh65) rfl rfl h
theorem uX3_fixLeast_0 {d : Nat} {Q : yM → Prop} {M : yM} {x1 : Int} (h1 : 0 ≤ x1 ∧ x1 < 64) (h2 : 0 ≤ x1 ∧ x1 < 64) (k : XCi d 116 [.inl (ld M 67 x1)] M (fun v M' => XW kX3_fixLeast (d + 1) none (wQv Q) 16 [some (.inr (.inr 65)), some (.inl x1), some (.inl (ld M 68 x1)), none, none, none] [.inl v] M')) : XW kX3_fixLeast (d + 1) none (wQv Q) 0 [some (.inr (.inr 65)), some (.inl x1), none, none, none, none] [] M := by
  refine x_aload_n rfl rfl ?_
  refine x_getR rfl sh65 rfl ?_
  refine x_iload_n rfl rfl ?_
  refine x_iaload rfl ⟨sh68, Nat.le_of_ble_eq_true rfl⟩ h1 ?_
  refine x_istore_n rfl (Nat.le_of_ble_eq_true rfl) rfl ?_
  refine x_aload_n rfl rfl ?_
  refine x_getR rfl sh65 rfl ?_
  refine x_iload_n rfl rfl ?_
  refine x_iaload rfl ⟨sh67, Nat.le_of_ble_eq_true rfl⟩ h2 ?_
  exact x_calli (args := [.inl (ld M 67 x1)]) rfl rfl rfl k
theorem uX3_fixLeast_16 {d : Nat} {Q : yM → Prop} {M : yM} {x1 : Int} {x2 : Int} {s0 : Int} (k : XW kX3_fixLeast d none (wQv Q) 23 [some (.inr (.inr 65)), some (.inl x1), some (.inl x2), some (.inl s0), some (.inl 0), some (.inl 0)] [] M) : XW kX3_fixLeast d none (wQv Q) 16 [some (.inr (.inr 65)), some (.inl x1), some (.inl x2), none, none, none] [.inl s0] M := by
  refine x_istore_n rfl (Nat.le_of_ble_eq_true rfl) rfl ?_
  refine x_iconst 0 rfl (by decide) ?_
  refine x_istore rfl (Nat.le_of_ble_eq_true rfl) rfl ?_
  refine x_iconst 0 rfl (by decide) ?_
  refine x_istore rfl (Nat.le_of_ble_eq_true rfl) rfl ?_
  exact k
theorem uX3_fixLeast_23 {d : Nat} {Q : yM → Prop} {M : yM} {x1 : Int} {x2 : Int} {x3 : Int} {x4 : Int} {x5 : Int} (h1 : -2147483648 ≤ x5 ∧ x5 < 2147483648) (h2 : -2147483648 ≤ x3 ∧ x3 < 2147483648) (kt : x5 ≥ x3 → XW kX3_fixLeast d none (wQv Q) 97 [some (.inr (.inr 65)), some (.inl x1), some (.inl x2), some (.inl x3), some (.inl x4), some (.inl x5)] [] M) (kf : x5 < x3 → XW kX3_fixLeast d none (wQv Q) 29 [some (.inr (.inr 65)), some (.inl x1), some (.inl x2), some (.inl x3), some (.inl x4), some (.inl x5)] [] M) : XW kX3_fixLeast d none (wQv Q) 23 [some (.inr (.inr 65)), some (.inl x1), some (.inl x2), some (.inl x3), some (.inl x4), some (.inl x5)] [] M := by
  refine x_iload rfl rfl ?_
  refine x_iload_n rfl rfl ?_
  exact x_icmpge rfl h1 h2 kt kf
theorem uX3_fixLeast_29 {d : Nat} {Q : yM → Prop} {M : yM} {x1 : Int} {x2 : Int} {x3 : Int} {x4 : Int} {x5 : Int} (h1 : -2147483648 ≤ x4 ∧ x4 < 2147483648) (kt : x4 ≠ 0 → XW kX3_fixLeast d none (wQv Q) 97 [some (.inr (.inr 65)), some (.inl x1), some (.inl x2), some (.inl x3), some (.inl x4), some (.inl x5)] [] M) (kf : x4 = 0 → XW kX3_fixLeast d none (wQv Q) 34 [some (.inr (.inr 65)), some (.inl x1), some (.inl x2), some (.inl x3), some (.inl x4), some (.inl x5)] [] M) : XW kX3_fixLeast d none (wQv Q) 29 [some (.inr (.inr 65)), some (.inl x1), some (.inl x2), some (.inl x3), some (.inl x4), some (.inl x5)] [] M := by
  refine x_iload rfl rfl ?_
  exact x_ifne rfl h1 kt kf
theorem uX3_fixLeast_34 {d : Nat} {Q : yM → Prop} {M : yM} {x1 : Int} {x2 : Int} {x3 : Int} {x4 : Int} {x5 : Int} (kt : (yand (yshr x2 x5) 1) ≠ 1 → XW kX3_fixLeast d none (wQv Q) 91 [some (.inr (.inr 65)), some (.inl x1), some (.inl x2), some (.inl x3), some (.inl x4), some (.inl x5)] [] M) (kf : (yand (yshr x2 x5) 1) = 1 → XW kX3_fixLeast d none (wQv Q) 44 [some (.inr (.inr 65)), some (.inl x1), some (.inl x2), some (.inl x3), some (.inl x4), some (.inl x5)] [] M) : XW kX3_fixLeast d none (wQv Q) 34 [some (.inr (.inr 65)), some (.inl x1), some (.inl x2), some (.inl x3), some (.inl x4), some (.inl x5)] [] M := by
  refine x_iload_n rfl rfl ?_
  refine x_iload rfl rfl ?_
  refine x_ishr rfl ?_
  refine x_iconst 1 rfl (by decide) ?_
  refine x_iand rfl ?_
  refine x_iconst 1 rfl (by decide) ?_
  exact x_icmpne rfl (rng_yand _ _) (by decide) kt kf
theorem uX3_fixLeast_44 {d : Nat} {Q : yM → Prop} {M : yM} {x1 : Int} {x2 : Int} {x3 : Int} {x4 : Int} {x5 : Int} (k : XCv d 58 [.inr (.inr 21), .inr (.inr 68), .inl x1, .inl x5] M (fun M' => XW kX3_fixLeast (d + 1) none (wQv Q) 61 [some (.inr (.inr 65)), some (.inl x1), some (.inl x2), some (.inl x3), some (.inl x4), some (.inl x5)] [] M')) : XW kX3_fixLeast (d + 1) none (wQv Q) 44 [some (.inr (.inr 65)), some (.inl x1), some (.inl x2), some (.inl x3), some (.inl x4), some (.inl x5)] [] M := by
  refine x_aload_n rfl rfl ?_
  refine x_getR rfl sh65 rfl ?_
  refine x_getR rfl sh22 rfl ?_
  refine x_aload_n rfl rfl ?_
  refine x_getR rfl sh65 rfl ?_
  refine x_iload_n rfl rfl ?_
  refine x_iload rfl rfl ?_
  exact x_callv (args := [.inr (.inr 21), .inr (.inr 68), .inl x1, .inl x5]) rfl rfl rfl k
theorem uX3_fixLeast_61 {d : Nat} {Q : yM → Prop} {M : yM} {x1 : Int} {x2 : Int} {x3 : Int} {x4 : Int} {x5 : Int} (k : XCi d 46 [.inr (.inr 22), .inr (.inr 68), .inl (ld M 19 0), .inl 1, .inl 0] M (fun v M' => XW kX3_fixLeast (d + 1) none (wQv Q) 81 [some (.inr (.inr 65)), some (.inl x1), some (.inl x2), some (.inl x3), some (.inl x4), some (.inl x5)] [.inl v] M')) : XW kX3_fixLeast (d + 1) none (wQv Q) 61 [some (.inr (.inr 65)), some (.inl x1), some (.inl x2), some (.inl x3), some (.inl x4), some (.inl x5)] [] M := by
  refine x_aload_n rfl rfl ?_
  refine x_getR rfl sh65 rfl ?_
  refine x_aload_n rfl rfl ?_
  refine x_getR rfl sh65 rfl ?_
  refine x_aload_n rfl rfl ?_
  refine x_getR rfl sh65 rfl ?_
  refine x_getI rfl sh19 rfl ?_
  refine x_iconst 1 rfl (by decide) ?_
  refine x_iconst 0 rfl (by decide) ?_
  exact x_calli (args := [.inr (.inr 22), .inr (.inr 68), .inl (ld M 19 0), .inl 1, .inl 0]) rfl rfl rfl k
theorem uX3_fixLeast_81 {d : Nat} {Q : yM → Prop} {M : yM} {x1 : Int} {x2 : Int} {x3 : Int} {x4 : Int} {x5 : Int} {s0 : Int} (h1 : -2147483648 ≤ s0 ∧ s0 < 2147483648) (kt : s0 ≤ 0 → XW kX3_fixLeast d none (wQv Q) 88 [some (.inr (.inr 65)), some (.inl x1), some (.inl x2), some (.inl x3), some (.inl x4), some (.inl x5)] [] M) (kf : s0 > 0 → XW kX3_fixLeast d none (wQv Q) 84 [some (.inr (.inr 65)), some (.inl x1), some (.inl x2), some (.inl x3), some (.inl x4), some (.inl x5)] [] M) : XW kX3_fixLeast d none (wQv Q) 81 [some (.inr (.inr 65)), some (.inl x1), some (.inl x2), some (.inl x3), some (.inl x4), some (.inl x5)] [.inl s0] M := by
  exact x_ifle rfl h1 kt kf
theorem uX3_fixLeast_84 {d : Nat} {Q : yM → Prop} {M : yM} {x1 : Int} {x2 : Int} {x3 : Int} {x4 : Int} {x5 : Int} (k : XW kX3_fixLeast d none (wQv Q) 89 [some (.inr (.inr 65)), some (.inl x1), some (.inl x2), some (.inl x3), some (.inl x4), some (.inl x5)] [.inl 1] M) : XW kX3_fixLeast d none (wQv Q) 84 [some (.inr (.inr 65)), some (.inl x1), some (.inl x2), some (.inl x3), some (.inl x4), some (.inl x5)] [] M := by
  refine x_iconst 1 rfl (by decide) ?_
  exact x_goto rfl k
theorem uX3_fixLeast_88 {d : Nat} {Q : yM → Prop} {M : yM} {x1 : Int} {x2 : Int} {x3 : Int} {x4 : Int} {x5 : Int} (k : XW kX3_fixLeast d none (wQv Q) 89 [some (.inr (.inr 65)), some (.inl x1), some (.inl x2), some (.inl x3), some (.inl x4), some (.inl x5)] [.inl 0] M) : XW kX3_fixLeast d none (wQv Q) 88 [some (.inr (.inr 65)), some (.inl x1), some (.inl x2), some (.inl x3), some (.inl x4), some (.inl x5)] [] M := by
  refine x_iconst 0 rfl (by decide) ?_
  exact k
theorem uX3_fixLeast_89 {d : Nat} {Q : yM → Prop} {M : yM} {x1 : Int} {x2 : Int} {x3 : Int} {x4 : Int} {x5 : Int} {s0 : Int} (k : XW kX3_fixLeast d none (wQv Q) 91 [some (.inr (.inr 65)), some (.inl x1), some (.inl x2), some (.inl x3), some (.inl s0), some (.inl x5)] [] M) : XW kX3_fixLeast d none (wQv Q) 89 [some (.inr (.inr 65)), some (.inl x1), some (.inl x2), some (.inl x3), some (.inl x4), some (.inl x5)] [.inl s0] M := by
  refine x_istore rfl (Nat.le_of_ble_eq_true rfl) rfl ?_
  exact k
theorem uX3_fixLeast_91 {d : Nat} {Q : yM → Prop} {M : yM} {x1 : Int} {x2 : Int} {x3 : Int} {x4 : Int} {x5 : Int} (k : XW kX3_fixLeast d none (wQv Q) 23 [some (.inr (.inr 65)), some (.inl x1), some (.inl x2), some (.inl x3), some (.inl x4), some (.inl (x5 + 1))] [] M) : XW kX3_fixLeast d none (wQv Q) 91 [some (.inr (.inr 65)), some (.inl x1), some (.inl x2), some (.inl x3), some (.inl x4), some (.inl x5)] [] M := by
  refine x_iinc 1 rfl (by decide) rfl rfl ?_
  exact x_goto rfl k
theorem uX3_fixLeast_97 {d : Nat} {Q : yM → Prop} {M : yM} {x1 : Int} {x2 : Int} {x3 : Int} {x4 : Int} {x5 : Int} (h1 : -2147483648 ≤ x4 ∧ x4 < 2147483648) (kt : x4 = 0 → XW kX3_fixLeast d none (wQv Q) 120 [some (.inr (.inr 65)), some (.inl x1), some (.inl x2), some (.inl x3), some (.inl x4), some (.inl x5)] [] M) (kf : x4 ≠ 0 → XW kX3_fixLeast d none (wQv Q) 102 [some (.inr (.inr 65)), some (.inl x1), some (.inl x2), some (.inl x3), some (.inl x4), some (.inl x5)] [] M) : XW kX3_fixLeast d none (wQv Q) 97 [some (.inr (.inr 65)), some (.inl x1), some (.inl x2), some (.inl x3), some (.inl x4), some (.inl x5)] [] M := by
  refine x_iload rfl rfl ?_
  exact x_ifeq rfl h1 kt kf
theorem uX3_fixLeast_102 {d : Nat} {Q : yM → Prop} {M : yM} {x1 : Int} {x2 : Int} {x3 : Int} {x4 : Int} {x5 : Int} (k : ∀ M', M' = (cpy M 54 67 0 0 64) → XW kX3_fixLeast d none (wQv Q) 120 [some (.inr (.inr 65)), some (.inl x1), some (.inl x2), some (.inl x3), some (.inl x4), some (.inl x5)] [] M') : XW kX3_fixLeast d none (wQv Q) 102 [some (.inr (.inr 65)), some (.inl x1), some (.inl x2), some (.inl x3), some (.inl x4), some (.inl x5)] [] M := by
  refine x_aload_n rfl rfl ?_
  refine x_getR rfl sh65 rfl ?_
  refine x_getR rfl sh22 rfl ?_
  refine x_iconst 0 rfl (by decide) ?_
  refine x_aload_n rfl rfl ?_
  refine x_getR rfl sh65 rfl ?_
  refine x_iconst 0 rfl (by decide) ?_
  refine x_bipush 64 rfl (by decide) ?_
  refine x_cpy rfl ⟨sh54, Nat.le_of_ble_eq_true rfl⟩ ⟨sh67, Nat.le_of_ble_eq_true rfl⟩ (by decide) (Nat.le_of_ble_eq_true rfl) ?_
  exact k _ rfl
theorem uX3_fixLeast_120 {d : Nat} {Q : yM → Prop} {M : yM} {x1 : Int} {x2 : Int} {x3 : Int} {x4 : Int} {x5 : Int} (h1 : 0 ≤ x1 ∧ x1 < 64) (k : XCi d 116 [.inl (ld M 67 x1)] M (fun v M' => XW kX3_fixLeast (d + 1) none (wQv Q) 141 [some (.inr (.inr 65)), some (.inl x1), some (.inl x2), some (.inl x3), some (.inl x4), some (.inl x5)] [.inl v, .inl x1, .inr (.inr 68), .inr (.inr 21)] M')) : XW kX3_fixLeast (d + 1) none (wQv Q) 120 [some (.inr (.inr 65)), some (.inl x1), some (.inl x2), some (.inl x3), some (.inl x4), some (.inl x5)] [] M := by
  refine x_aload_n rfl rfl ?_
  refine x_getR rfl sh65 rfl ?_
  refine x_getR rfl sh22 rfl ?_
  refine x_aload_n rfl rfl ?_
  refine x_getR rfl sh65 rfl ?_
  refine x_iload_n rfl rfl ?_
  refine x_aload_n rfl rfl ?_
  refine x_getR rfl sh65 rfl ?_
  refine x_iload_n rfl rfl ?_
  refine x_iaload rfl ⟨sh67, Nat.le_of_ble_eq_true rfl⟩ h1 ?_
  exact x_calli (args := [.inl (ld M 67 x1)]) rfl rfl rfl k
theorem uX3_fixLeast_141 {d : Nat} {Q : yM → Prop} {M : yM} {x1 : Int} {x2 : Int} {x3 : Int} {x4 : Int} {x5 : Int} {s0 : Int} {s1 : Int} (k : XCv d 58 [.inr (.inr 21), .inr (.inr 68), .inl s1, .inl s0] M (fun M' => XW kX3_fixLeast (d + 1) none (wQv Q) 144 [some (.inr (.inr 65)), some (.inl x1), some (.inl x2), some (.inl x3), some (.inl x4), some (.inl x5)] [] M')) : XW kX3_fixLeast (d + 1) none (wQv Q) 141 [some (.inr (.inr 65)), some (.inl x1), some (.inl x2), some (.inl x3), some (.inl x4), some (.inl x5)] [.inl s0, .inl s1, .inr (.inr 68), .inr (.inr 21)] M := by
  exact x_callv (args := [.inr (.inr 21), .inr (.inr 68), .inl s1, .inl s0]) rfl rfl rfl k
theorem uX3_fixLeast_144 {d : Nat} {Q : yM → Prop} {M : yM} {x1 : Int} {x2 : Int} {x3 : Int} {x4 : Int} {x5 : Int} (k : Q M) : XW kX3_fixLeast d none (wQv Q) 144 [some (.inr (.inr 65)), some (.inl x1), some (.inl x2), some (.inl x3), some (.inl x4), some (.inl x5)] [] M := by
  exact x_return rfl k
theorem eX4_forget {d : Nat} {Q : yM → Prop} {M : yM}   (h : XW kX4_forget d none (wQv Q) 0 [some (.inr (.inr 56)), none] [] M) : XCv d 26 [.inr (.inr 56)] M Q :=
  XC.ofW (Mm := (yX4_forget, cX4_forget, 2, none, 5, kX4_forget)) rfl (rcv_ok sh56) rfl rfl h
theorem uX4_forget_0 {d : Nat} {Q : yM → Prop} {M : yM}  (k : XW kX4_forget d none (wQv Q) 2 [some (.inr (.inr 56)), some (.inl 0)] [] M) : XW kX4_forget d none (wQv Q) 0 [some (.inr (.inr 56)), none] [] M := by
  refine x_iconst 0 rfl (by decide) ?_
  refine x_istore_n rfl (Nat.le_of_ble_eq_true rfl) rfl ?_
  exact k
theorem uX4_forget_2 {d : Nat} {Q : yM → Prop} {M : yM} {x1 : Int} (h1 : -2147483648 ≤ x1 ∧ x1 < 2147483648) (kt : x1 ≥ 3 → XW kX4_forget d none (wQv Q) 20 [some (.inr (.inr 56)), some (.inl x1)] [] M) (kf : x1 < 3 → XW kX4_forget d none (wQv Q) 7 [some (.inr (.inr 56)), some (.inl x1)] [] M) : XW kX4_forget d none (wQv Q) 2 [some (.inr (.inr 56)), some (.inl x1)] [] M := by
  refine x_iload_n rfl rfl ?_
  refine x_iconst 3 rfl (by decide) ?_
  exact x_icmpge rfl h1 (by decide) kt kf
theorem uX4_forget_7 {d : Nat} {Q : yM → Prop} {M : yM} {x1 : Int} (h1 : 0 ≤ x1 ∧ x1 < 3) (k : ∀ M', M' = (put M 62 x1 0) → XW kX4_forget d none (wQv Q) 14 [some (.inr (.inr 56)), some (.inl x1)] [] M') : XW kX4_forget d none (wQv Q) 7 [some (.inr (.inr 56)), some (.inl x1)] [] M := by
  refine x_aload_n rfl rfl ?_
  refine x_getR rfl sh56 rfl ?_
  refine x_iload_n rfl rfl ?_
  refine x_iconst 0 rfl (by decide) ?_
  refine x_bastore rfl ⟨sh62, Nat.le_of_ble_eq_true rfl⟩ h1 (by decide) ?_
  exact k _ rfl
theorem uX4_forget_14 {d : Nat} {Q : yM → Prop} {M : yM} {x1 : Int} (k : XW kX4_forget d none (wQv Q) 2 [some (.inr (.inr 56)), some (.inl (x1 + 1))] [] M) : XW kX4_forget d none (wQv Q) 14 [some (.inr (.inr 56)), some (.inl x1)] [] M := by
  refine x_iinc 1 rfl (by decide) rfl rfl ?_
  exact x_goto rfl k
theorem uX4_forget_20 {d : Nat} {Q : yM → Prop} {M : yM} {x1 : Int} (k : Q M) : XW kX4_forget d none (wQv Q) 20 [some (.inr (.inr 56)), some (.inl x1)] [] M := by
  exact x_return rfl k
theorem eX4_costOf {d : Nat} {Q : Int → yM → Prop} {M : yM} {x1 : Int}  (h : XW kX4_costOf d (some .int) (wQi Q) 0 [some (.inr (.inr 56)), some (.inl x1)] [] M) : XCi d 27 [.inr (.inr 56), .inl x1] M Q :=
  XC.ofW (Mm := (yX4_costOf, cX4_costOf, 2, (some .int), 5, kX4_costOf)) rfl (rcv_ok sh56) rfl rfl h
theorem uX4_costOf_0 {d : Nat} {Q : Int → yM → Prop} {M : yM} {x1 : Int} (h1 : -2147483648 ≤ x1 ∧ x1 < 2147483648) (kt : x1 ≠ (-1) → XW kX4_costOf d (some .int) (wQi Q) 9 [some (.inr (.inr 56)), some (.inl x1)] [] M) (kf : x1 = (-1) → XW kX4_costOf d (some .int) (wQi Q) 5 [some (.inr (.inr 56)), some (.inl x1)] [] M) : XW kX4_costOf d (some .int) (wQi Q) 0 [some (.inr (.inr 56)), some (.inl x1)] [] M := by
  refine x_iload_n rfl rfl ?_
  refine x_iconst (-1) rfl (by decide) ?_
  exact x_icmpne rfl h1 (by decide) kt kf
theorem uX4_costOf_5 {d : Nat} {Q : Int → yM → Prop} {M : yM} {x1 : Int} (k : XW kX4_costOf d (some .int) (wQi Q) 15 [some (.inr (.inr 56)), some (.inl x1)] [.inl 0] M) : XW kX4_costOf d (some .int) (wQi Q) 5 [some (.inr (.inr 56)), some (.inl x1)] [] M := by
  refine x_iconst 0 rfl (by decide) ?_
  exact x_goto rfl k
theorem uX4_costOf_9 {d : Nat} {Q : Int → yM → Prop} {M : yM} {x1 : Int} (h1 : 0 ≤ x1 ∧ x1 < 3) (k : XW kX4_costOf d (some .int) (wQi Q) 15 [some (.inr (.inr 56)), some (.inl x1)] [.inl (ld M 61 x1)] M) : XW kX4_costOf d (some .int) (wQi Q) 9 [some (.inr (.inr 56)), some (.inl x1)] [] M := by
  refine x_aload_n rfl rfl ?_
  refine x_getR rfl sh56 rfl ?_
  refine x_iload_n rfl rfl ?_
  refine x_iaload rfl ⟨sh61, Nat.le_of_ble_eq_true rfl⟩ h1 ?_
  exact k
theorem uX4_costOf_15 {d : Nat} {Q : Int → yM → Prop} {M : yM} {x1 : Int} {s0 : Int} (k : Q s0 M) : XW kX4_costOf d (some .int) (wQi Q) 15 [some (.inr (.inr 56)), some (.inl x1)] [.inl s0] M := by
  exact x_ireturn rfl k
theorem eX4_cellsBy {d : Nat} {Q : Nat → yM → Prop} {M : yM} {x1 : Int}  (h : XW kX4_cellsBy d (some (.array .int)) (wQr Q) 0 [some (.inr (.inr 56)), some (.inl x1), none] [] M) : XCr d 28 [.inr (.inr 56), .inl x1] M Q :=
  XC.ofW (Mm := (yX4_cellsBy, cX4_cellsBy, 3, (some (.array .int)), 5, kX4_cellsBy)) rfl (rcv_ok sh56) rfl rfl h
theorem uX4_cellsBy_0 {d : Nat} {Q : Nat → yM → Prop} {M : yM} {x1 : Int} (h1 : -2147483648 ≤ x1 ∧ x1 < 2147483648) (kt : x1 ≠ (-1) → XW kX4_cellsBy d (some (.array .int)) (wQr Q) 13 [some (.inr (.inr 56)), some (.inl x1), none] [] M) (kf : x1 = (-1) → XW kX4_cellsBy d (some (.array .int)) (wQr Q) 5 [some (.inr (.inr 56)), some (.inl x1), none] [] M) : XW kX4_cellsBy d (some (.array .int)) (wQr Q) 0 [some (.inr (.inr 56)), some (.inl x1), none] [] M := by
  refine x_iload_n rfl rfl ?_
  refine x_iconst (-1) rfl (by decide) ?_
  exact x_icmpne rfl h1 (by decide) kt kf
theorem uX4_cellsBy_5 {d : Nat} {Q : Nat → yM → Prop} {M : yM} {x1 : Int} (k : Q 20 M) : XW kX4_cellsBy d (some (.array .int)) (wQr Q) 5 [some (.inr (.inr 56)), some (.inl x1), none] [] M := by
  refine x_aload_n rfl rfl ?_
  refine x_getR rfl sh56 rfl ?_
  refine x_getR rfl sh19 rfl ?_
  exact x_areturn rfl k
theorem uX4_cellsBy_13 {d : Nat} {Q : Nat → yM → Prop} {M : yM} {x1 : Int} (h1 : 0 ≤ x1 ∧ x1 < 3) (h2 : 0 ≤ x1 ∧ x1 < 3) (kt : (ld M 62 x1) ≠ 0 → XW kX4_cellsBy d (some (.array .int)) (wQr Q) 87 [some (.inr (.inr 56)), some (.inl x1), some (.inr (.inr (58 + (x1).toNat)))] [] M) (kf : (ld M 62 x1) = 0 → XW kX4_cellsBy d (some (.array .int)) (wQr Q) 29 [some (.inr (.inr 56)), some (.inl x1), some (.inr (.inr (58 + (x1).toNat)))] [] M) : XW kX4_cellsBy d (some (.array .int)) (wQr Q) 13 [some (.inr (.inr 56)), some (.inl x1), none] [] M := by
  refine x_aload_n rfl rfl ?_
  refine x_getR rfl sh56 rfl ?_
  refine x_iload_n rfl rfl ?_
  refine x_aaload rfl ⟨sh57, Nat.le_of_ble_eq_true rfl⟩ (by decide) h1 (yref57 h1) ?_
  refine x_astore_n rfl (Nat.le_of_ble_eq_true rfl) rfl ?_
  refine x_aload_n rfl rfl ?_
  refine x_getR rfl sh56 rfl ?_
  refine x_iload_n rfl rfl ?_
  refine x_baload rfl ⟨sh62, Nat.le_of_ble_eq_true rfl⟩ h2 ?_
  exact x_ifne rfl (rng_ld _ _ _) kt kf
theorem uX4_cellsBy_29 {d : Nat} {Q : Nat → yM → Prop} {M : yM} {x1 : Int} {x2 : Nat} (h1 : arrSh x2 64) (k : ∀ M', M' = (cpy M 20 x2 0 0 64) → XW kX4_cellsBy d (some (.array .int)) (wQr Q) 44 [some (.inr (.inr 56)), some (.inl x1), some (.inr (.inr x2))] [] M') : XW kX4_cellsBy d (some (.array .int)) (wQr Q) 29 [some (.inr (.inr 56)), some (.inl x1), some (.inr (.inr x2))] [] M := by
  refine x_aload_n rfl rfl ?_
  refine x_getR rfl sh56 rfl ?_
  refine x_getR rfl sh19 rfl ?_
  refine x_iconst 0 rfl (by decide) ?_
  refine x_aload_n rfl rfl ?_
  refine x_iconst 0 rfl (by decide) ?_
  refine x_bipush 64 rfl (by decide) ?_
  refine x_cpy rfl ⟨sh20, Nat.le_of_ble_eq_true rfl⟩ h1 (by decide) (Nat.le_of_ble_eq_true rfl) ?_
  exact k _ rfl
theorem uX4_cellsBy_44 {d : Nat} {Q : Nat → yM → Prop} {M : yM} {x1 : Int} {x2 : Nat} (h1 : -2147483648 ≤ x1 ∧ x1 < 2147483648) (kt : x1 ≠ 0 → XW kX4_cellsBy d (some (.array .int)) (wQr Q) 61 [some (.inr (.inr 56)), some (.inl x1), some (.inr (.inr x2))] [.inl x1, .inr (.inr 61)] M) (kf : x1 = 0 → XW kX4_cellsBy d (some (.array .int)) (wQr Q) 53 [some (.inr (.inr 56)), some (.inl x1), some (.inr (.inr x2))] [.inl x1, .inr (.inr 61)] M) : XW kX4_cellsBy d (some (.array .int)) (wQr Q) 44 [some (.inr (.inr 56)), some (.inl x1), some (.inr (.inr x2))] [] M := by
  refine x_aload_n rfl rfl ?_
  refine x_getR rfl sh56 rfl ?_
  refine x_iload_n rfl rfl ?_
  refine x_iload_n rfl rfl ?_
  exact x_ifne rfl h1 kt kf
theorem uX4_cellsBy_53 {d : Nat} {Q : Nat → yM → Prop} {M : yM} {x1 : Int} {x2 : Nat} {s0 : Int} (k : XCi d 29 [.inr (.inr 56), .inr (.inr x2)] M (fun v M' => XW kX4_cellsBy (d + 1) (some (.array .int)) (wQr Q) 58 [some (.inr (.inr 56)), some (.inl x1), some (.inr (.inr x2))] [.inl v, .inl s0, .inr (.inr 61)] M')) : XW kX4_cellsBy (d + 1) (some (.array .int)) (wQr Q) 53 [some (.inr (.inr 56)), some (.inl x1), some (.inr (.inr x2))] [.inl s0, .inr (.inr 61)] M := by
  refine x_aload_n rfl rfl ?_
  refine x_aload_n rfl rfl ?_
  exact x_calli (args := [.inr (.inr 56), .inr (.inr x2)]) rfl rfl rfl k
theorem uX4_cellsBy_58 {d : Nat} {Q : Nat → yM → Prop} {M : yM} {x1 : Int} {x2 : Nat} {s0 : Int} {s1 : Int} (k : XW kX4_cellsBy d (some (.array .int)) (wQr Q) 79 [some (.inr (.inr 56)), some (.inl x1), some (.inr (.inr x2))] [.inl s0, .inl s1, .inr (.inr 61)] M) : XW kX4_cellsBy d (some (.array .int)) (wQr Q) 58 [some (.inr (.inr 56)), some (.inl x1), some (.inr (.inr x2))] [.inl s0, .inl s1, .inr (.inr 61)] M := by
  exact x_goto rfl k
theorem uX4_cellsBy_61 {d : Nat} {Q : Nat → yM → Prop} {M : yM} {x1 : Int} {x2 : Nat} {s0 : Int} (h1 : -2147483648 ≤ x1 ∧ x1 < 2147483648) (kt : x1 ≠ 1 → XW kX4_cellsBy d (some (.array .int)) (wQr Q) 74 [some (.inr (.inr 56)), some (.inl x1), some (.inr (.inr x2))] [.inl s0, .inr (.inr 61)] M) (kf : x1 = 1 → XW kX4_cellsBy d (some (.array .int)) (wQr Q) 66 [some (.inr (.inr 56)), some (.inl x1), some (.inr (.inr x2))] [.inl s0, .inr (.inr 61)] M) : XW kX4_cellsBy d (some (.array .int)) (wQr Q) 61 [some (.inr (.inr 56)), some (.inl x1), some (.inr (.inr x2))] [.inl s0, .inr (.inr 61)] M := by
  refine x_iload_n rfl rfl ?_
  refine x_iconst 1 rfl (by decide) ?_
  exact x_icmpne rfl h1 (by decide) kt kf
theorem uX4_cellsBy_66 {d : Nat} {Q : Nat → yM → Prop} {M : yM} {x1 : Int} {x2 : Nat} {s0 : Int} (k : XCi d 30 [.inr (.inr 56), .inr (.inr x2)] M (fun v M' => XW kX4_cellsBy (d + 1) (some (.array .int)) (wQr Q) 71 [some (.inr (.inr 56)), some (.inl x1), some (.inr (.inr x2))] [.inl v, .inl s0, .inr (.inr 61)] M')) : XW kX4_cellsBy (d + 1) (some (.array .int)) (wQr Q) 66 [some (.inr (.inr 56)), some (.inl x1), some (.inr (.inr x2))] [.inl s0, .inr (.inr 61)] M := by
  refine x_aload_n rfl rfl ?_
  refine x_aload_n rfl rfl ?_
  exact x_calli (args := [.inr (.inr 56), .inr (.inr x2)]) rfl rfl rfl k
theorem uX4_cellsBy_71 {d : Nat} {Q : Nat → yM → Prop} {M : yM} {x1 : Int} {x2 : Nat} {s0 : Int} {s1 : Int} (k : XW kX4_cellsBy d (some (.array .int)) (wQr Q) 79 [some (.inr (.inr 56)), some (.inl x1), some (.inr (.inr x2))] [.inl s0, .inl s1, .inr (.inr 61)] M) : XW kX4_cellsBy d (some (.array .int)) (wQr Q) 71 [some (.inr (.inr 56)), some (.inl x1), some (.inr (.inr x2))] [.inl s0, .inl s1, .inr (.inr 61)] M := by
  exact x_goto rfl k
theorem uX4_cellsBy_74 {d : Nat} {Q : Nat → yM → Prop} {M : yM} {x1 : Int} {x2 : Nat} {s0 : Int} (k : XCi d 32 [.inr (.inr 56), .inr (.inr x2)] M (fun v M' => XW kX4_cellsBy (d + 1) (some (.array .int)) (wQr Q) 79 [some (.inr (.inr 56)), some (.inl x1), some (.inr (.inr x2))] [.inl v, .inl s0, .inr (.inr 61)] M')) : XW kX4_cellsBy (d + 1) (some (.array .int)) (wQr Q) 74 [some (.inr (.inr 56)), some (.inl x1), some (.inr (.inr x2))] [.inl s0, .inr (.inr 61)] M := by
  refine x_aload_n rfl rfl ?_
  refine x_aload_n rfl rfl ?_
  exact x_calli (args := [.inr (.inr 56), .inr (.inr x2)]) rfl rfl rfl k
theorem uX4_cellsBy_79 {d : Nat} {Q : Nat → yM → Prop} {M : yM} {x1 : Int} {x2 : Nat} {s0 : Int} {s1 : Int} (h1 : 0 ≤ s1 ∧ s1 < 3) (k : ∀ M', M' = (put M 61 s1 s0) → XW kX4_cellsBy d (some (.array .int)) (wQr Q) 80 [some (.inr (.inr 56)), some (.inl x1), some (.inr (.inr x2))] [] M') : XW kX4_cellsBy d (some (.array .int)) (wQr Q) 79 [some (.inr (.inr 56)), some (.inl x1), some (.inr (.inr x2))] [.inl s0, .inl s1, .inr (.inr 61)] M := by
  refine x_iastore rfl ⟨sh61, Nat.le_of_ble_eq_true rfl⟩ h1  ?_
  exact k _ rfl
theorem uX4_cellsBy_80 {d : Nat} {Q : Nat → yM → Prop} {M : yM} {x1 : Int} {x2 : Nat} (h1 : 0 ≤ x1 ∧ x1 < 3) (k : ∀ M', M' = (put M 62 x1 1) → XW kX4_cellsBy d (some (.array .int)) (wQr Q) 87 [some (.inr (.inr 56)), some (.inl x1), some (.inr (.inr x2))] [] M') : XW kX4_cellsBy d (some (.array .int)) (wQr Q) 80 [some (.inr (.inr 56)), some (.inl x1), some (.inr (.inr x2))] [] M := by
  refine x_aload_n rfl rfl ?_
  refine x_getR rfl sh56 rfl ?_
  refine x_iload_n rfl rfl ?_
  refine x_iconst 1 rfl (by decide) ?_
  refine x_bastore rfl ⟨sh62, Nat.le_of_ble_eq_true rfl⟩ h1 (by decide) ?_
  exact k _ rfl
theorem uX4_cellsBy_87 {d : Nat} {Q : Nat → yM → Prop} {M : yM} {x1 : Int} {x2 : Nat} (k : Q x2 M) : XW kX4_cellsBy d (some (.array .int)) (wQr Q) 87 [some (.inr (.inr 56)), some (.inl x1), some (.inr (.inr x2))] [] M := by
  refine x_aload_n rfl rfl ?_
  exact x_areturn rfl k
theorem eX4_once {d : Nat} {Q : Int → yM → Prop} {M : yM} {x1 : Nat}  (h : XW kX4_once d (some .int) (wQi Q) 0 [some (.inr (.inr 56)), some (.inr (.inr x1)), none, none, none, none] [] M) : XCi d 29 [.inr (.inr 56), .inr (.inr x1)] M Q :=
  XC.ofW (Mm := (yX4_once, cX4_once, 6, (some .int), 5, kX4_once)) rfl (rcv_ok sh56) rfl rfl h
theorem uX4_once_0 {d : Nat} {Q : Int → yM → Prop} {M : yM} {x1 : Nat} (k : XCi d 117 [.inr (.inr x1), .inl (ld M 19 0)] M (fun v M' => XW kX4_once (d + 1) (some .int) (wQi Q) 13 [some (.inr (.inr 56)), some (.inr (.inr x1)), some (.inl (ld M 19 0)), none, none, none] [.inl v] M')) : XW kX4_once (d + 1) (some .int) (wQi Q) 0 [some (.inr (.inr 56)), some (.inr (.inr x1)), none, none, none, none] [] M := by
  refine x_aload_n rfl rfl ?_
  refine x_getR rfl sh56 rfl ?_
  refine x_getI rfl sh19 rfl ?_
  refine x_istore_n rfl (Nat.le_of_ble_eq_true rfl) rfl ?_
  refine x_aload_n rfl rfl ?_
  refine x_iload_n rfl rfl ?_
  exact x_calli (args := [.inr (.inr x1), .inl (ld M 19 0)]) rfl rfl rfl k
theorem uX4_once_13 {d : Nat} {Q : Int → yM → Prop} {M : yM} {x1 : Nat} {x2 : Int} {s0 : Int} (h1 : -2147483648 ≤ s0 ∧ s0 < 2147483648) (kt : s0 = 0 → XW kX4_once d (some .int) (wQi Q) 18 [some (.inr (.inr 56)), some (.inr (.inr x1)), some (.inl x2), none, none, none] [] M) (kf : s0 ≠ 0 → XW kX4_once d (some .int) (wQi Q) 16 [some (.inr (.inr 56)), some (.inr (.inr x1)), some (.inl x2), none, none, none] [] M) : XW kX4_once d (some .int) (wQi Q) 13 [some (.inr (.inr 56)), some (.inr (.inr x1)), some (.inl x2), none, none, none] [.inl s0] M := by
  exact x_ifeq rfl h1 kt kf
theorem uX4_once_16 {d : Nat} {Q : Int → yM → Prop} {M : yM} {x1 : Nat} {x2 : Int} (k : Q 1 M) : XW kX4_once d (some .int) (wQi Q) 16 [some (.inr (.inr 56)), some (.inr (.inr x1)), some (.inl x2), none, none, none] [] M := by
  refine x_iconst 1 rfl (by decide) ?_
  exact x_ireturn rfl k
theorem uX4_once_18 {d : Nat} {Q : Int → yM → Prop} {M : yM} {x1 : Nat} {x2 : Int} (k : XW kX4_once d (some .int) (wQi Q) 20 [some (.inr (.inr 56)), some (.inr (.inr x1)), some (.inl x2), some (.inl 0), none, none] [] M) : XW kX4_once d (some .int) (wQi Q) 18 [some (.inr (.inr 56)), some (.inr (.inr x1)), some (.inl x2), none, none, none] [] M := by
  refine x_iconst 0 rfl (by decide) ?_
  refine x_istore_n rfl (Nat.le_of_ble_eq_true rfl) rfl ?_
  exact k
theorem uX4_once_20 {d : Nat} {Q : Int → yM → Prop} {M : yM} {x1 : Nat} {x2 : Int} {x3 : Int} {wx4 : Option yV} {wx5 : Option yV} (h1 : -2147483648 ≤ x3 ∧ x3 < 2147483648) (h2 : -2147483648 ≤ x2 ∧ x2 < 2147483648) (kt : x3 ≥ x2 → XW kX4_once d (some .int) (wQi Q) 94 [some (.inr (.inr 56)), some (.inr (.inr x1)), some (.inl x2), some (.inl x3), wx4, wx5] [] M) (kf : x3 < x2 → XW kX4_once d (some .int) (wQi Q) 25 [some (.inr (.inr 56)), some (.inr (.inr x1)), some (.inl x2), some (.inl x3), wx4, wx5] [] M) : XW kX4_once d (some .int) (wQi Q) 20 [some (.inr (.inr 56)), some (.inr (.inr x1)), some (.inl x2), some (.inl x3), wx4, wx5] [] M := by
  refine x_iload_n rfl rfl ?_
  refine x_iload_n rfl rfl ?_
  exact x_icmpge rfl h1 h2 kt kf
theorem uX4_once_25 {d : Nat} {Q : Int → yM → Prop} {M : yM} {x1 : Nat} {x2 : Int} {x3 : Int} {wx4 : Option yV} {wx5 : Option yV} (k : XW kX4_once d (some .int) (wQi Q) 28 [some (.inr (.inr 56)), some (.inr (.inr x1)), some (.inl x2), some (.inl x3), some (.inl 0), wx5] [] M) : XW kX4_once d (some .int) (wQi Q) 25 [some (.inr (.inr 56)), some (.inr (.inr x1)), some (.inl x2), some (.inl x3), wx4, wx5] [] M := by
  refine x_iconst 0 rfl (by decide) ?_
  refine x_istore rfl (Nat.le_of_ble_eq_true rfl) rfl ?_
  exact k
theorem uX4_once_28 {d : Nat} {Q : Int → yM → Prop} {M : yM} {x1 : Nat} {x2 : Int} {x3 : Int} {x4 : Int} {wx5 : Option yV} (h1 : -2147483648 ≤ x4 ∧ x4 < 2147483648) (h2 : -2147483648 ≤ x2 ∧ x2 < 2147483648) (kt : x4 ≥ x2 → XW kX4_once d (some .int) (wQi Q) 88 [some (.inr (.inr 56)), some (.inr (.inr x1)), some (.inl x2), some (.inl x3), some (.inl x4), wx5] [] M) (kf : x4 < x2 → XW kX4_once d (some .int) (wQi Q) 34 [some (.inr (.inr 56)), some (.inr (.inr x1)), some (.inl x2), some (.inl x3), some (.inl x4), wx5] [] M) : XW kX4_once d (some .int) (wQi Q) 28 [some (.inr (.inr 56)), some (.inr (.inr x1)), some (.inl x2), some (.inl x3), some (.inl x4), wx5] [] M := by
  refine x_iload rfl rfl ?_
  refine x_iload_n rfl rfl ?_
  exact x_icmpge rfl h1 h2 kt kf
theorem uX4_once_34 {d : Nat} {Q : Int → yM → Prop} {M : yM} {x1 : Nat} {x2 : Int} {x3 : Int} {x4 : Int} {wx5 : Option yV} (k : XW kX4_once d (some .int) (wQi Q) 39 [some (.inr (.inr 56)), some (.inr (.inr x1)), some (.inl x2), some (.inl x3), some (.inl x4), some (.inl (x3 + 1))] [] M) : XW kX4_once d (some .int) (wQi Q) 34 [some (.inr (.inr 56)), some (.inr (.inr x1)), some (.inl x2), some (.inl x3), some (.inl x4), wx5] [] M := by
  refine x_iload_n rfl rfl ?_
  refine x_iconst 1 rfl (by decide) ?_
  refine x_iadd rfl ?_
  refine x_istore rfl (Nat.le_of_ble_eq_true rfl) rfl ?_
  exact k
theorem uX4_once_39 {d : Nat} {Q : Int → yM → Prop} {M : yM} {x1 : Nat} {x2 : Int} {x3 : Int} {x4 : Int} {x5 : Int} (h1 : -2147483648 ≤ x5 ∧ x5 < 2147483648) (h2 : -2147483648 ≤ x2 ∧ x2 < 2147483648) (kt : x5 ≥ x2 → XW kX4_once d (some .int) (wQi Q) 82 [some (.inr (.inr 56)), some (.inr (.inr x1)), some (.inl x2), some (.inl x3), some (.inl x4), some (.inl x5)] [] M) (kf : x5 < x2 → XW kX4_once d (some .int) (wQi Q) 45 [some (.inr (.inr 56)), some (.inr (.inr x1)), some (.inl x2), some (.inl x3), some (.inl x4), some (.inl x5)] [] M) : XW kX4_once d (some .int) (wQi Q) 39 [some (.inr (.inr 56)), some (.inr (.inr x1)), some (.inl x2), some (.inl x3), some (.inl x4), some (.inl x5)] [] M := by
  refine x_iload rfl rfl ?_
  refine x_iload_n rfl rfl ?_
  exact x_icmpge rfl h1 h2 kt kf
theorem uX4_once_45 {d : Nat} {Q : Int → yM → Prop} {M : yM} {x1 : Nat} {x2 : Int} {x3 : Int} {x4 : Int} {x5 : Int} (h1 : -2147483648 ≤ x4 ∧ x4 < 2147483648) (h2 : -2147483648 ≤ x3 ∧ x3 < 2147483648) (kt : x4 = x3 → XW kX4_once d (some .int) (wQi Q) 76 [some (.inr (.inr 56)), some (.inr (.inr x1)), some (.inl x2), some (.inl x3), some (.inl x4), some (.inl x5)] [] M) (kf : x4 ≠ x3 → XW kX4_once d (some .int) (wQi Q) 51 [some (.inr (.inr 56)), some (.inr (.inr x1)), some (.inl x2), some (.inl x3), some (.inl x4), some (.inl x5)] [] M) : XW kX4_once d (some .int) (wQi Q) 45 [some (.inr (.inr 56)), some (.inr (.inr x1)), some (.inl x2), some (.inl x3), some (.inl x4), some (.inl x5)] [] M := by
  refine x_iload rfl rfl ?_
  refine x_iload_n rfl rfl ?_
  exact x_icmpeq rfl h1 h2 kt kf
theorem uX4_once_51 {d : Nat} {Q : Int → yM → Prop} {M : yM} {x1 : Nat} {x2 : Int} {x3 : Int} {x4 : Int} {x5 : Int} (h1 : -2147483648 ≤ x4 ∧ x4 < 2147483648) (h2 : -2147483648 ≤ x5 ∧ x5 < 2147483648) (kt : x4 = x5 → XW kX4_once d (some .int) (wQi Q) 76 [some (.inr (.inr 56)), some (.inr (.inr x1)), some (.inl x2), some (.inl x3), some (.inl x4), some (.inl x5)] [] M) (kf : x4 ≠ x5 → XW kX4_once d (some .int) (wQi Q) 58 [some (.inr (.inr 56)), some (.inr (.inr x1)), some (.inl x2), some (.inl x3), some (.inl x4), some (.inl x5)] [] M) : XW kX4_once d (some .int) (wQi Q) 51 [some (.inr (.inr 56)), some (.inr (.inr x1)), some (.inl x2), some (.inl x3), some (.inl x4), some (.inl x5)] [] M := by
  refine x_iload rfl rfl ?_
  refine x_iload rfl rfl ?_
  exact x_icmpeq rfl h1 h2 kt kf
theorem uX4_once_58 {d : Nat} {Q : Int → yM → Prop} {M : yM} {x1 : Nat} {x2 : Int} {x3 : Int} {x4 : Int} {x5 : Int} (k : XCi d 56 [.inr (.inr 21), .inr (.inr x1), .inl x3, .inl x4, .inl x5] M (fun v M' => XW kX4_once (d + 1) (some .int) (wQi Q) 71 [some (.inr (.inr 56)), some (.inr (.inr x1)), some (.inl x2), some (.inl x3), some (.inl x4), some (.inl x5)] [.inl v] M')) : XW kX4_once (d + 1) (some .int) (wQi Q) 58 [some (.inr (.inr 56)), some (.inr (.inr x1)), some (.inl x2), some (.inl x3), some (.inl x4), some (.inl x5)] [] M := by
  refine x_aload_n rfl rfl ?_
  refine x_getR rfl sh56 rfl ?_
  refine x_aload_n rfl rfl ?_
  refine x_iload_n rfl rfl ?_
  refine x_iload rfl rfl ?_
  refine x_iload rfl rfl ?_
  exact x_calli (args := [.inr (.inr 21), .inr (.inr x1), .inl x3, .inl x4, .inl x5]) rfl rfl rfl k
theorem uX4_once_71 {d : Nat} {Q : Int → yM → Prop} {M : yM} {x1 : Nat} {x2 : Int} {x3 : Int} {x4 : Int} {x5 : Int} {s0 : Int} (h1 : -2147483648 ≤ s0 ∧ s0 < 2147483648) (kt : s0 ≠ 0 → XW kX4_once d (some .int) (wQi Q) 76 [some (.inr (.inr 56)), some (.inr (.inr x1)), some (.inl x2), some (.inl x3), some (.inl x4), some (.inl x5)] [] M) (kf : s0 = 0 → XW kX4_once d (some .int) (wQi Q) 74 [some (.inr (.inr 56)), some (.inr (.inr x1)), some (.inl x2), some (.inl x3), some (.inl x4), some (.inl x5)] [] M) : XW kX4_once d (some .int) (wQi Q) 71 [some (.inr (.inr 56)), some (.inr (.inr x1)), some (.inl x2), some (.inl x3), some (.inl x4), some (.inl x5)] [.inl s0] M := by
  exact x_ifne rfl h1 kt kf
theorem uX4_once_74 {d : Nat} {Q : Int → yM → Prop} {M : yM} {x1 : Nat} {x2 : Int} {x3 : Int} {x4 : Int} {x5 : Int} (k : Q 1 M) : XW kX4_once d (some .int) (wQi Q) 74 [some (.inr (.inr 56)), some (.inr (.inr x1)), some (.inl x2), some (.inl x3), some (.inl x4), some (.inl x5)] [] M := by
  refine x_iconst 1 rfl (by decide) ?_
  exact x_ireturn rfl k
theorem uX4_once_76 {d : Nat} {Q : Int → yM → Prop} {M : yM} {x1 : Nat} {x2 : Int} {x3 : Int} {x4 : Int} {x5 : Int} (k : XW kX4_once d (some .int) (wQi Q) 39 [some (.inr (.inr 56)), some (.inr (.inr x1)), some (.inl x2), some (.inl x3), some (.inl x4), some (.inl (x5 + 1))] [] M) : XW kX4_once d (some .int) (wQi Q) 76 [some (.inr (.inr 56)), some (.inr (.inr x1)), some (.inl x2), some (.inl x3), some (.inl x4), some (.inl x5)] [] M := by
  refine x_iinc 1 rfl (by decide) rfl rfl ?_
  exact x_goto rfl k
theorem uX4_once_82 {d : Nat} {Q : Int → yM → Prop} {M : yM} {x1 : Nat} {x2 : Int} {x3 : Int} {x4 : Int} {x5 : Int} (k : XW kX4_once d (some .int) (wQi Q) 28 [some (.inr (.inr 56)), some (.inr (.inr x1)), some (.inl x2), some (.inl x3), some (.inl (x4 + 1)), some (.inl x5)] [] M) : XW kX4_once d (some .int) (wQi Q) 82 [some (.inr (.inr 56)), some (.inr (.inr x1)), some (.inl x2), some (.inl x3), some (.inl x4), some (.inl x5)] [] M := by
  refine x_iinc 1 rfl (by decide) rfl rfl ?_
  exact x_goto rfl k
theorem uX4_once_88 {d : Nat} {Q : Int → yM → Prop} {M : yM} {x1 : Nat} {x2 : Int} {x3 : Int} {x4 : Int} {wx5 : Option yV} (k : XW kX4_once d (some .int) (wQi Q) 20 [some (.inr (.inr 56)), some (.inr (.inr x1)), some (.inl x2), some (.inl (x3 + 1)), some (.inl x4), wx5] [] M) : XW kX4_once d (some .int) (wQi Q) 88 [some (.inr (.inr 56)), some (.inr (.inr x1)), some (.inl x2), some (.inl x3), some (.inl x4), wx5] [] M := by
  refine x_iinc 1 rfl (by decide) rfl rfl ?_
  exact x_goto rfl k
theorem uX4_once_94 {d : Nat} {Q : Int → yM → Prop} {M : yM} {x1 : Nat} {x2 : Int} {x3 : Int} {wx4 : Option yV} {wx5 : Option yV} (k : Q 1 M) : XW kX4_once d (some .int) (wQi Q) 94 [some (.inr (.inr 56)), some (.inr (.inr x1)), some (.inl x2), some (.inl x3), wx4, wx5] [] M := by
  refine x_iconst 1 rfl (by decide) ?_
  exact x_ireturn rfl k
theorem eX4_full {d : Nat} {Q : Int → yM → Prop} {M : yM} {x1 : Nat}  (h : XW kX4_full d (some .int) (wQi Q) 0 [some (.inr (.inr 56)), some (.inr (.inr x1)), none, none, none] [] M) : XCi d 30 [.inr (.inr 56), .inr (.inr x1)] M Q :=
  XC.ofW (Mm := (yX4_full, cX4_full, 5, (some .int), 5, kX4_full)) rfl (rcv_ok sh56) rfl rfl h
theorem uX4_full_0 {d : Nat} {Q : Int → yM → Prop} {M : yM} {x1 : Nat} (k : XCi d 117 [.inr (.inr x1), .inl (ld M 19 0)] M (fun v M' => XW kX4_full (d + 1) (some .int) (wQi Q) 14 [some (.inr (.inr 56)), some (.inr (.inr x1)), some (.inl 10), none, none] [.inl v] M')) : XW kX4_full (d + 1) (some .int) (wQi Q) 0 [some (.inr (.inr 56)), some (.inr (.inr x1)), none, none, none] [] M := by
  refine x_bipush 10 rfl (by decide) ?_
  refine x_istore_n rfl (Nat.le_of_ble_eq_true rfl) rfl ?_
  refine x_aload_n rfl rfl ?_
  refine x_aload_n rfl rfl ?_
  refine x_getR rfl sh56 rfl ?_
  refine x_getI rfl sh19 rfl ?_
  exact x_calli (args := [.inr (.inr x1), .inl (ld M 19 0)]) rfl rfl rfl k
theorem uX4_full_14 {d : Nat} {Q : Int → yM → Prop} {M : yM} {x1 : Nat} {x2 : Int} {s0 : Int} (h1 : -2147483648 ≤ s0 ∧ s0 < 2147483648) (kt : s0 ≠ 0 → XW kX4_full d (some .int) (wQi Q) 21 [some (.inr (.inr 56)), some (.inr (.inr x1)), some (.inl x2), none, none] [] M) (kf : s0 = 0 → XW kX4_full d (some .int) (wQi Q) 17 [some (.inr (.inr 56)), some (.inr (.inr x1)), some (.inl x2), none, none] [] M) : XW kX4_full d (some .int) (wQi Q) 14 [some (.inr (.inr 56)), some (.inr (.inr x1)), some (.inl x2), none, none] [.inl s0] M := by
  exact x_ifne rfl h1 kt kf
theorem uX4_full_17 {d : Nat} {Q : Int → yM → Prop} {M : yM} {x1 : Nat} {x2 : Int} (k : XW kX4_full d (some .int) (wQi Q) 22 [some (.inr (.inr 56)), some (.inr (.inr x1)), some (.inl x2), none, none] [.inl 1] M) : XW kX4_full d (some .int) (wQi Q) 17 [some (.inr (.inr 56)), some (.inr (.inr x1)), some (.inl x2), none, none] [] M := by
  refine x_iconst 1 rfl (by decide) ?_
  exact x_goto rfl k
theorem uX4_full_21 {d : Nat} {Q : Int → yM → Prop} {M : yM} {x1 : Nat} {x2 : Int} (k : XW kX4_full d (some .int) (wQi Q) 22 [some (.inr (.inr 56)), some (.inr (.inr x1)), some (.inl x2), none, none] [.inl 0] M) : XW kX4_full d (some .int) (wQi Q) 21 [some (.inr (.inr 56)), some (.inr (.inr x1)), some (.inl x2), none, none] [] M := by
  refine x_iconst 0 rfl (by decide) ?_
  exact k
theorem uX4_full_22 {d : Nat} {Q : Int → yM → Prop} {M : yM} {x1 : Nat} {x2 : Int} {s0 : Int} (k : XW kX4_full d (some .int) (wQi Q) 26 [some (.inr (.inr 56)), some (.inr (.inr x1)), some (.inl x2), some (.inl s0), some (.inl 0)] [] M) : XW kX4_full d (some .int) (wQi Q) 22 [some (.inr (.inr 56)), some (.inr (.inr x1)), some (.inl x2), none, none] [.inl s0] M := by
  refine x_istore_n rfl (Nat.le_of_ble_eq_true rfl) rfl ?_
  refine x_iconst 0 rfl (by decide) ?_
  refine x_istore rfl (Nat.le_of_ble_eq_true rfl) rfl ?_
  exact k
theorem uX4_full_26 {d : Nat} {Q : Int → yM → Prop} {M : yM} {x1 : Nat} {x2 : Int} {x3 : Int} {x4 : Int} (h1 : -2147483648 ≤ x3 ∧ x3 < 2147483648) (kt : x3 = 0 → XW kX4_full d (some .int) (wQi Q) 92 [some (.inr (.inr 56)), some (.inr (.inr x1)), some (.inl x2), some (.inl x3), some (.inl x4)] [] M) (kf : x3 ≠ 0 → XW kX4_full d (some .int) (wQi Q) 30 [some (.inr (.inr 56)), some (.inr (.inr x1)), some (.inl x2), some (.inl x3), some (.inl x4)] [] M) : XW kX4_full d (some .int) (wQi Q) 26 [some (.inr (.inr 56)), some (.inr (.inr x1)), some (.inl x2), some (.inl x3), some (.inl x4)] [] M := by
  refine x_iload_n rfl rfl ?_
  exact x_ifeq rfl h1 kt kf
theorem uX4_full_30 {d : Nat} {Q : Int → yM → Prop} {M : yM} {x1 : Nat} {x2 : Int} {x3 : Int} {x4 : Int} (h1 : -2147483648 ≤ x4 ∧ x4 < 2147483648) (kt : x4 ≥ 1000 → XW kX4_full d (some .int) (wQi Q) 92 [some (.inr (.inr 56)), some (.inr (.inr x1)), some (.inl x2), some (.inl x3), some (.inl x4)] [] M) (kf : x4 < 1000 → XW kX4_full d (some .int) (wQi Q) 38 [some (.inr (.inr 56)), some (.inr (.inr x1)), some (.inl x2), some (.inl x3), some (.inl x4)] [] M) : XW kX4_full d (some .int) (wQi Q) 30 [some (.inr (.inr 56)), some (.inr (.inr x1)), some (.inl x2), some (.inl x3), some (.inl x4)] [] M := by
  refine x_iload rfl rfl ?_
  refine x_sipush 1000 rfl (by decide) ?_
  exact x_icmpge rfl h1 (by decide) kt kf
theorem uX4_full_38 {d : Nat} {Q : Int → yM → Prop} {M : yM} {x1 : Nat} {x2 : Int} {x3 : Int} {x4 : Int} (h1 : arrSh x1 64) (k : ∀ M', M' = (cpy M x1 63 0 0 64) → XW kX4_full d (some .int) (wQi Q) 50 [some (.inr (.inr 56)), some (.inr (.inr x1)), some (.inl x2), some (.inl x3), some (.inl x4)] [] M') : XW kX4_full d (some .int) (wQi Q) 38 [some (.inr (.inr 56)), some (.inr (.inr x1)), some (.inl x2), some (.inl x3), some (.inl x4)] [] M := by
  refine x_aload_n rfl rfl ?_
  refine x_iconst 0 rfl (by decide) ?_
  refine x_aload_n rfl rfl ?_
  refine x_getR rfl sh56 rfl ?_
  refine x_iconst 0 rfl (by decide) ?_
  refine x_bipush 64 rfl (by decide) ?_
  refine x_cpy rfl h1 ⟨sh63, Nat.le_of_ble_eq_true rfl⟩ (by decide) (Nat.le_of_ble_eq_true rfl) ?_
  exact k _ rfl
theorem uX4_full_50 {d : Nat} {Q : Int → yM → Prop} {M : yM} {x1 : Nat} {x2 : Int} {x3 : Int} {x4 : Int} (k : XCi d 29 [.inr (.inr 56), .inr (.inr x1)] M (fun v M' => XW kX4_full (d + 1) (some .int) (wQi Q) 56 [some (.inr (.inr 56)), some (.inr (.inr x1)), some (.inl x2), some (.inl x3), some (.inl x4)] [.inl v, .inl x2] M')) : XW kX4_full (d + 1) (some .int) (wQi Q) 50 [some (.inr (.inr 56)), some (.inr (.inr x1)), some (.inl x2), some (.inl x3), some (.inl x4)] [] M := by
  refine x_iload_n rfl rfl ?_
  refine x_aload_n rfl rfl ?_
  refine x_aload_n rfl rfl ?_
  exact x_calli (args := [.inr (.inr 56), .inr (.inr x1)]) rfl rfl rfl k
theorem uX4_full_56 {d : Nat} {Q : Int → yM → Prop} {M : yM} {x1 : Nat} {x2 : Int} {x3 : Int} {x4 : Int} {s0 : Int} {s1 : Int} (k : XCi d 117 [.inr (.inr x1), .inl (ld M 19 0)] M (fun v M' => XW kX4_full (d + 1) (some .int) (wQi Q) 69 [some (.inr (.inr 56)), some (.inr (.inr x1)), some (.inl (s1 + s0)), some (.inl x3), some (.inl x4)] [.inl v] M')) : XW kX4_full (d + 1) (some .int) (wQi Q) 56 [some (.inr (.inr 56)), some (.inr (.inr x1)), some (.inl x2), some (.inl x3), some (.inl x4)] [.inl s0, .inl s1] M := by
  refine x_iadd rfl ?_
  refine x_istore_n rfl (Nat.le_of_ble_eq_true rfl) rfl ?_
  refine x_aload_n rfl rfl ?_
  refine x_aload_n rfl rfl ?_
  refine x_getR rfl sh56 rfl ?_
  refine x_getI rfl sh19 rfl ?_
  exact x_calli (args := [.inr (.inr x1), .inl (ld M 19 0)]) rfl rfl rfl k
theorem uX4_full_69 {d : Nat} {Q : Int → yM → Prop} {M : yM} {x1 : Nat} {x2 : Int} {x3 : Int} {x4 : Int} {s0 : Int} (h1 : -2147483648 ≤ s0 ∧ s0 < 2147483648) (kt : s0 ≠ 0 → XW kX4_full d (some .int) (wQi Q) 84 [some (.inr (.inr 56)), some (.inr (.inr x1)), some (.inl x2), some (.inl x3), some (.inl x4)] [] M) (kf : s0 = 0 → XW kX4_full d (some .int) (wQi Q) 72 [some (.inr (.inr 56)), some (.inr (.inr x1)), some (.inl x2), some (.inl x3), some (.inl x4)] [] M) : XW kX4_full d (some .int) (wQi Q) 69 [some (.inr (.inr 56)), some (.inr (.inr x1)), some (.inl x2), some (.inl x3), some (.inl x4)] [.inl s0] M := by
  exact x_ifne rfl h1 kt kf
theorem uX4_full_72 {d : Nat} {Q : Int → yM → Prop} {M : yM} {x1 : Nat} {x2 : Int} {x3 : Int} {x4 : Int} (k : XCi d 31 [.inr (.inr 56), .inr (.inr x1)] M (fun v M' => XW kX4_full (d + 1) (some .int) (wQi Q) 77 [some (.inr (.inr 56)), some (.inr (.inr x1)), some (.inl x2), some (.inl x3), some (.inl x4)] [.inl v] M')) : XW kX4_full (d + 1) (some .int) (wQi Q) 72 [some (.inr (.inr 56)), some (.inr (.inr x1)), some (.inl x2), some (.inl x3), some (.inl x4)] [] M := by
  refine x_aload_n rfl rfl ?_
  refine x_aload_n rfl rfl ?_
  exact x_calli (args := [.inr (.inr 56), .inr (.inr x1)]) rfl rfl rfl k
theorem uX4_full_77 {d : Nat} {Q : Int → yM → Prop} {M : yM} {x1 : Nat} {x2 : Int} {x3 : Int} {x4 : Int} {s0 : Int} (h1 : -2147483648 ≤ s0 ∧ s0 < 2147483648) (kt : s0 = 0 → XW kX4_full d (some .int) (wQi Q) 84 [some (.inr (.inr 56)), some (.inr (.inr x1)), some (.inl x2), some (.inl x3), some (.inl x4)] [] M) (kf : s0 ≠ 0 → XW kX4_full d (some .int) (wQi Q) 80 [some (.inr (.inr 56)), some (.inr (.inr x1)), some (.inl x2), some (.inl x3), some (.inl x4)] [] M) : XW kX4_full d (some .int) (wQi Q) 77 [some (.inr (.inr 56)), some (.inr (.inr x1)), some (.inl x2), some (.inl x3), some (.inl x4)] [.inl s0] M := by
  exact x_ifeq rfl h1 kt kf
theorem uX4_full_80 {d : Nat} {Q : Int → yM → Prop} {M : yM} {x1 : Nat} {x2 : Int} {x3 : Int} {x4 : Int} (k : XW kX4_full d (some .int) (wQi Q) 85 [some (.inr (.inr 56)), some (.inr (.inr x1)), some (.inl x2), some (.inl x3), some (.inl x4)] [.inl 1] M) : XW kX4_full d (some .int) (wQi Q) 80 [some (.inr (.inr 56)), some (.inr (.inr x1)), some (.inl x2), some (.inl x3), some (.inl x4)] [] M := by
  refine x_iconst 1 rfl (by decide) ?_
  exact x_goto rfl k
theorem uX4_full_84 {d : Nat} {Q : Int → yM → Prop} {M : yM} {x1 : Nat} {x2 : Int} {x3 : Int} {x4 : Int} (k : XW kX4_full d (some .int) (wQi Q) 85 [some (.inr (.inr 56)), some (.inr (.inr x1)), some (.inl x2), some (.inl x3), some (.inl x4)] [.inl 0] M) : XW kX4_full d (some .int) (wQi Q) 84 [some (.inr (.inr 56)), some (.inr (.inr x1)), some (.inl x2), some (.inl x3), some (.inl x4)] [] M := by
  refine x_iconst 0 rfl (by decide) ?_
  exact k
theorem uX4_full_85 {d : Nat} {Q : Int → yM → Prop} {M : yM} {x1 : Nat} {x2 : Int} {x3 : Int} {x4 : Int} {s0 : Int} (k : XW kX4_full d (some .int) (wQi Q) 26 [some (.inr (.inr 56)), some (.inr (.inr x1)), some (.inl x2), some (.inl s0), some (.inl (x4 + 1))] [] M) : XW kX4_full d (some .int) (wQi Q) 85 [some (.inr (.inr 56)), some (.inr (.inr x1)), some (.inl x2), some (.inl x3), some (.inl x4)] [.inl s0] M := by
  refine x_istore_n rfl (Nat.le_of_ble_eq_true rfl) rfl ?_
  refine x_iinc 1 rfl (by decide) rfl rfl ?_
  exact x_goto rfl k
theorem uX4_full_92 {d : Nat} {Q : Int → yM → Prop} {M : yM} {x1 : Nat} {x2 : Int} {x3 : Int} {x4 : Int} (k : Q x2 M) : XW kX4_full d (some .int) (wQi Q) 92 [some (.inr (.inr 56)), some (.inr (.inr x1)), some (.inl x2), some (.inl x3), some (.inl x4)] [] M := by
  refine x_iload_n rfl rfl ?_
  exact x_ireturn rfl k
theorem eX4_differs {d : Nat} {Q : Int → yM → Prop} {M : yM} {x1 : Nat}  (h : XW kX4_differs d (some .boolean) (wQi Q) 0 [some (.inr (.inr 56)), some (.inr (.inr x1)), none] [] M) : XCi d 31 [.inr (.inr 56), .inr (.inr x1)] M Q :=
  XC.ofW (Mm := (yX4_differs, cX4_differs, 3, (some .boolean), 5, kX4_differs)) rfl (rcv_ok sh56) rfl rfl h
theorem uX4_differs_0 {d : Nat} {Q : Int → yM → Prop} {M : yM} {x1 : Nat} (k : XW kX4_differs d (some .boolean) (wQi Q) 2 [some (.inr (.inr 56)), some (.inr (.inr x1)), some (.inl 0)] [] M) : XW kX4_differs d (some .boolean) (wQi Q) 0 [some (.inr (.inr 56)), some (.inr (.inr x1)), none] [] M := by
  refine x_iconst 0 rfl (by decide) ?_
  refine x_istore_n rfl (Nat.le_of_ble_eq_true rfl) rfl ?_
  exact k
theorem uX4_differs_2 {d : Nat} {Q : Int → yM → Prop} {M : yM} {x1 : Nat} {x2 : Int} (h1 : -2147483648 ≤ x2 ∧ x2 < 2147483648) (kt : x2 ≥ 64 → XW kX4_differs d (some .boolean) (wQi Q) 28 [some (.inr (.inr 56)), some (.inr (.inr x1)), some (.inl x2)] [] M) (kf : x2 < 64 → XW kX4_differs d (some .boolean) (wQi Q) 8 [some (.inr (.inr 56)), some (.inr (.inr x1)), some (.inl x2)] [] M) : XW kX4_differs d (some .boolean) (wQi Q) 2 [some (.inr (.inr 56)), some (.inr (.inr x1)), some (.inl x2)] [] M := by
  refine x_iload_n rfl rfl ?_
  refine x_bipush 64 rfl (by decide) ?_
  exact x_icmpge rfl h1 (by decide) kt kf
theorem uX4_differs_8 {d : Nat} {Q : Int → yM → Prop} {M : yM} {x1 : Nat} {x2 : Int} (h1 : arrSh x1 64) (h2 : 0 ≤ x2 ∧ x2 < 64) (h3 : 0 ≤ x2 ∧ x2 < 64) (kt : (ld M x1 x2) = (ld M 63 x2) → XW kX4_differs d (some .boolean) (wQi Q) 22 [some (.inr (.inr 56)), some (.inr (.inr x1)), some (.inl x2)] [] M) (kf : (ld M x1 x2) ≠ (ld M 63 x2) → XW kX4_differs d (some .boolean) (wQi Q) 20 [some (.inr (.inr 56)), some (.inr (.inr x1)), some (.inl x2)] [] M) : XW kX4_differs d (some .boolean) (wQi Q) 8 [some (.inr (.inr 56)), some (.inr (.inr x1)), some (.inl x2)] [] M := by
  refine x_aload_n rfl rfl ?_
  refine x_iload_n rfl rfl ?_
  refine x_iaload rfl h1 h2 ?_
  refine x_aload_n rfl rfl ?_
  refine x_getR rfl sh56 rfl ?_
  refine x_iload_n rfl rfl ?_
  refine x_iaload rfl ⟨sh63, Nat.le_of_ble_eq_true rfl⟩ h3 ?_
  exact x_icmpeq rfl (rng_ld _ _ _) (rng_ld _ _ _) kt kf
theorem uX4_differs_20 {d : Nat} {Q : Int → yM → Prop} {M : yM} {x1 : Nat} {x2 : Int} (k : Q 1 M) : XW kX4_differs d (some .boolean) (wQi Q) 20 [some (.inr (.inr 56)), some (.inr (.inr x1)), some (.inl x2)] [] M := by
  refine x_iconst 1 rfl (by decide) ?_
  exact x_zreturn rfl (by decide) k
theorem uX4_differs_22 {d : Nat} {Q : Int → yM → Prop} {M : yM} {x1 : Nat} {x2 : Int} (k : XW kX4_differs d (some .boolean) (wQi Q) 2 [some (.inr (.inr 56)), some (.inr (.inr x1)), some (.inl (x2 + 1))] [] M) : XW kX4_differs d (some .boolean) (wQi Q) 22 [some (.inr (.inr 56)), some (.inr (.inr x1)), some (.inl x2)] [] M := by
  refine x_iinc 1 rfl (by decide) rfl rfl ?_
  exact x_goto rfl k
theorem uX4_differs_28 {d : Nat} {Q : Int → yM → Prop} {M : yM} {x1 : Nat} {x2 : Int} (k : Q 0 M) : XW kX4_differs d (some .boolean) (wQi Q) 28 [some (.inr (.inr 56)), some (.inr (.inr x1)), some (.inl x2)] [] M := by
  refine x_iconst 0 rfl (by decide) ?_
  exact x_zreturn rfl (by decide) k
theorem eX4_trying {d : Nat} {Q : Int → yM → Prop} {M : yM} {x1 : Nat}  (h : XW kX4_trying d (some .int) (wQi Q) 0 [some (.inr (.inr 56)), some (.inr (.inr x1)), none, none, none] [] M) : XCi d 32 [.inr (.inr 56), .inr (.inr x1)] M Q :=
  XC.ofW (Mm := (yX4_trying, cX4_trying, 5, (some .int), 5, kX4_trying)) rfl (rcv_ok sh56) rfl rfl h
theorem uX4_trying_0 {d : Nat} {Q : Int → yM → Prop} {M : yM} {x1 : Nat} (k : XCi d 117 [.inr (.inr x1), .inl (ld M 19 0)] M (fun v M' => XW kX4_trying (d + 1) (some .int) (wQi Q) 14 [some (.inr (.inr 56)), some (.inr (.inr x1)), some (.inl 100), none, none] [.inl v] M')) : XW kX4_trying (d + 1) (some .int) (wQi Q) 0 [some (.inr (.inr 56)), some (.inr (.inr x1)), none, none, none] [] M := by
  refine x_bipush 100 rfl (by decide) ?_
  refine x_istore_n rfl (Nat.le_of_ble_eq_true rfl) rfl ?_
  refine x_aload_n rfl rfl ?_
  refine x_aload_n rfl rfl ?_
  refine x_getR rfl sh56 rfl ?_
  refine x_getI rfl sh19 rfl ?_
  exact x_calli (args := [.inr (.inr x1), .inl (ld M 19 0)]) rfl rfl rfl k
theorem uX4_trying_14 {d : Nat} {Q : Int → yM → Prop} {M : yM} {x1 : Nat} {x2 : Int} {s0 : Int} (h1 : -2147483648 ≤ s0 ∧ s0 < 2147483648) (kt : s0 ≠ 0 → XW kX4_trying d (some .int) (wQi Q) 21 [some (.inr (.inr 56)), some (.inr (.inr x1)), some (.inl x2), none, none] [] M) (kf : s0 = 0 → XW kX4_trying d (some .int) (wQi Q) 17 [some (.inr (.inr 56)), some (.inr (.inr x1)), some (.inl x2), none, none] [] M) : XW kX4_trying d (some .int) (wQi Q) 14 [some (.inr (.inr 56)), some (.inr (.inr x1)), some (.inl x2), none, none] [.inl s0] M := by
  exact x_ifne rfl h1 kt kf
theorem uX4_trying_17 {d : Nat} {Q : Int → yM → Prop} {M : yM} {x1 : Nat} {x2 : Int} (k : XW kX4_trying d (some .int) (wQi Q) 22 [some (.inr (.inr 56)), some (.inr (.inr x1)), some (.inl x2), none, none] [.inl 1] M) : XW kX4_trying d (some .int) (wQi Q) 17 [some (.inr (.inr 56)), some (.inr (.inr x1)), some (.inl x2), none, none] [] M := by
  refine x_iconst 1 rfl (by decide) ?_
  exact x_goto rfl k
theorem uX4_trying_21 {d : Nat} {Q : Int → yM → Prop} {M : yM} {x1 : Nat} {x2 : Int} (k : XW kX4_trying d (some .int) (wQi Q) 22 [some (.inr (.inr 56)), some (.inr (.inr x1)), some (.inl x2), none, none] [.inl 0] M) : XW kX4_trying d (some .int) (wQi Q) 21 [some (.inr (.inr 56)), some (.inr (.inr x1)), some (.inl x2), none, none] [] M := by
  refine x_iconst 0 rfl (by decide) ?_
  exact k
theorem uX4_trying_22 {d : Nat} {Q : Int → yM → Prop} {M : yM} {x1 : Nat} {x2 : Int} {s0 : Int} (k : XW kX4_trying d (some .int) (wQi Q) 26 [some (.inr (.inr 56)), some (.inr (.inr x1)), some (.inl x2), some (.inl s0), some (.inl 0)] [] M) : XW kX4_trying d (some .int) (wQi Q) 22 [some (.inr (.inr 56)), some (.inr (.inr x1)), some (.inl x2), none, none] [.inl s0] M := by
  refine x_istore_n rfl (Nat.le_of_ble_eq_true rfl) rfl ?_
  refine x_iconst 0 rfl (by decide) ?_
  refine x_istore rfl (Nat.le_of_ble_eq_true rfl) rfl ?_
  exact k
theorem uX4_trying_26 {d : Nat} {Q : Int → yM → Prop} {M : yM} {x1 : Nat} {x2 : Int} {x3 : Int} {x4 : Int} (h1 : -2147483648 ≤ x3 ∧ x3 < 2147483648) (kt : x3 = 0 → XW kX4_trying d (some .int) (wQi Q) 94 [some (.inr (.inr 56)), some (.inr (.inr x1)), some (.inl x2), some (.inl x3), some (.inl x4)] [] M) (kf : x3 ≠ 0 → XW kX4_trying d (some .int) (wQi Q) 30 [some (.inr (.inr 56)), some (.inr (.inr x1)), some (.inl x2), some (.inl x3), some (.inl x4)] [] M) : XW kX4_trying d (some .int) (wQi Q) 26 [some (.inr (.inr 56)), some (.inr (.inr x1)), some (.inl x2), some (.inl x3), some (.inl x4)] [] M := by
  refine x_iload_n rfl rfl ?_
  exact x_ifeq rfl h1 kt kf
theorem uX4_trying_30 {d : Nat} {Q : Int → yM → Prop} {M : yM} {x1 : Nat} {x2 : Int} {x3 : Int} {x4 : Int} (h1 : -2147483648 ≤ x4 ∧ x4 < 2147483648) (kt : x4 ≥ 1000 → XW kX4_trying d (some .int) (wQi Q) 94 [some (.inr (.inr 56)), some (.inr (.inr x1)), some (.inl x2), some (.inl x3), some (.inl x4)] [] M) (kf : x4 < 1000 → XW kX4_trying d (some .int) (wQi Q) 38 [some (.inr (.inr 56)), some (.inr (.inr x1)), some (.inl x2), some (.inl x3), some (.inl x4)] [] M) : XW kX4_trying d (some .int) (wQi Q) 30 [some (.inr (.inr 56)), some (.inr (.inr x1)), some (.inl x2), some (.inl x3), some (.inl x4)] [] M := by
  refine x_iload rfl rfl ?_
  refine x_sipush 1000 rfl (by decide) ?_
  exact x_icmpge rfl h1 (by decide) kt kf
theorem uX4_trying_38 {d : Nat} {Q : Int → yM → Prop} {M : yM} {x1 : Nat} {x2 : Int} {x3 : Int} {x4 : Int} (k : XCi d 30 [.inr (.inr 56), .inr (.inr x1)] M (fun v M' => XW kX4_trying (d + 1) (some .int) (wQi Q) 44 [some (.inr (.inr 56)), some (.inr (.inr x1)), some (.inl x2), some (.inl x3), some (.inl x4)] [.inl v, .inl x2] M')) : XW kX4_trying (d + 1) (some .int) (wQi Q) 38 [some (.inr (.inr 56)), some (.inr (.inr x1)), some (.inl x2), some (.inl x3), some (.inl x4)] [] M := by
  refine x_iload_n rfl rfl ?_
  refine x_aload_n rfl rfl ?_
  refine x_aload_n rfl rfl ?_
  exact x_calli (args := [.inr (.inr 56), .inr (.inr x1)]) rfl rfl rfl k
theorem uX4_trying_44 {d : Nat} {Q : Int → yM → Prop} {M : yM} {x1 : Nat} {x2 : Int} {x3 : Int} {x4 : Int} {s0 : Int} {s1 : Int} (k : XCi d 117 [.inr (.inr x1), .inl (ld M 19 0)] M (fun v M' => XW kX4_trying (d + 1) (some .int) (wQi Q) 57 [some (.inr (.inr 56)), some (.inr (.inr x1)), some (.inl (s1 + s0)), some (.inl x3), some (.inl x4)] [.inl v] M')) : XW kX4_trying (d + 1) (some .int) (wQi Q) 44 [some (.inr (.inr 56)), some (.inr (.inr x1)), some (.inl x2), some (.inl x3), some (.inl x4)] [.inl s0, .inl s1] M := by
  refine x_iadd rfl ?_
  refine x_istore_n rfl (Nat.le_of_ble_eq_true rfl) rfl ?_
  refine x_aload_n rfl rfl ?_
  refine x_aload_n rfl rfl ?_
  refine x_getR rfl sh56 rfl ?_
  refine x_getI rfl sh19 rfl ?_
  exact x_calli (args := [.inr (.inr x1), .inl (ld M 19 0)]) rfl rfl rfl k
theorem uX4_trying_57 {d : Nat} {Q : Int → yM → Prop} {M : yM} {x1 : Nat} {x2 : Int} {x3 : Int} {x4 : Int} {s0 : Int} (h1 : -2147483648 ≤ s0 ∧ s0 < 2147483648) (kt : s0 ≠ 0 → XW kX4_trying d (some .int) (wQi Q) 86 [some (.inr (.inr 56)), some (.inr (.inr x1)), some (.inl x2), some (.inl x3), some (.inl x4)] [] M) (kf : s0 = 0 → XW kX4_trying d (some .int) (wQi Q) 60 [some (.inr (.inr 56)), some (.inr (.inr x1)), some (.inl x2), some (.inl x3), some (.inl x4)] [] M) : XW kX4_trying d (some .int) (wQi Q) 57 [some (.inr (.inr 56)), some (.inr (.inr x1)), some (.inl x2), some (.inl x3), some (.inl x4)] [.inl s0] M := by
  exact x_ifne rfl h1 kt kf
theorem uX4_trying_60 {d : Nat} {Q : Int → yM → Prop} {M : yM} {x1 : Nat} {x2 : Int} {x3 : Int} {x4 : Int} (k : XCi d 33 [.inr (.inr 56), .inr (.inr x1)] M (fun v M' => XW kX4_trying (d + 1) (some .int) (wQi Q) 65 [some (.inr (.inr 56)), some (.inr (.inr x1)), some (.inl x2), some (.inl x3), some (.inl x4)] [.inl v] M')) : XW kX4_trying (d + 1) (some .int) (wQi Q) 60 [some (.inr (.inr 56)), some (.inr (.inr x1)), some (.inl x2), some (.inl x3), some (.inl x4)] [] M := by
  refine x_aload_n rfl rfl ?_
  refine x_aload_n rfl rfl ?_
  exact x_calli (args := [.inr (.inr 56), .inr (.inr x1)]) rfl rfl rfl k
theorem uX4_trying_65 {d : Nat} {Q : Int → yM → Prop} {M : yM} {x1 : Nat} {x2 : Int} {x3 : Int} {x4 : Int} {s0 : Int} (h1 : -2147483648 ≤ s0 ∧ s0 < 2147483648) (kt : s0 = 0 → XW kX4_trying d (some .int) (wQi Q) 86 [some (.inr (.inr 56)), some (.inr (.inr x1)), some (.inl x2), some (.inl x3), some (.inl x4)] [] M) (kf : s0 ≠ 0 → XW kX4_trying d (some .int) (wQi Q) 68 [some (.inr (.inr 56)), some (.inr (.inr x1)), some (.inl x2), some (.inl x3), some (.inl x4)] [] M) : XW kX4_trying d (some .int) (wQi Q) 65 [some (.inr (.inr 56)), some (.inr (.inr x1)), some (.inl x2), some (.inl x3), some (.inl x4)] [.inl s0] M := by
  exact x_ifeq rfl h1 kt kf
theorem uX4_trying_68 {d : Nat} {Q : Int → yM → Prop} {M : yM} {x1 : Nat} {x2 : Int} {x3 : Int} {x4 : Int} (k : XCi d 117 [.inr (.inr x1), .inl (ld M 19 0)] M (fun v M' => XW kX4_trying (d + 1) (some .int) (wQi Q) 79 [some (.inr (.inr 56)), some (.inr (.inr x1)), some (.inl x2), some (.inl x3), some (.inl x4)] [.inl v] M')) : XW kX4_trying (d + 1) (some .int) (wQi Q) 68 [some (.inr (.inr 56)), some (.inr (.inr x1)), some (.inl x2), some (.inl x3), some (.inl x4)] [] M := by
  refine x_aload_n rfl rfl ?_
  refine x_aload_n rfl rfl ?_
  refine x_getR rfl sh56 rfl ?_
  refine x_getI rfl sh19 rfl ?_
  exact x_calli (args := [.inr (.inr x1), .inl (ld M 19 0)]) rfl rfl rfl k
theorem uX4_trying_79 {d : Nat} {Q : Int → yM → Prop} {M : yM} {x1 : Nat} {x2 : Int} {x3 : Int} {x4 : Int} {s0 : Int} (h1 : -2147483648 ≤ s0 ∧ s0 < 2147483648) (kt : s0 ≠ 0 → XW kX4_trying d (some .int) (wQi Q) 86 [some (.inr (.inr 56)), some (.inr (.inr x1)), some (.inl x2), some (.inl x3), some (.inl x4)] [] M) (kf : s0 = 0 → XW kX4_trying d (some .int) (wQi Q) 82 [some (.inr (.inr 56)), some (.inr (.inr x1)), some (.inl x2), some (.inl x3), some (.inl x4)] [] M) : XW kX4_trying d (some .int) (wQi Q) 79 [some (.inr (.inr 56)), some (.inr (.inr x1)), some (.inl x2), some (.inl x3), some (.inl x4)] [.inl s0] M := by
  exact x_ifne rfl h1 kt kf
theorem uX4_trying_82 {d : Nat} {Q : Int → yM → Prop} {M : yM} {x1 : Nat} {x2 : Int} {x3 : Int} {x4 : Int} (k : XW kX4_trying d (some .int) (wQi Q) 87 [some (.inr (.inr 56)), some (.inr (.inr x1)), some (.inl x2), some (.inl x3), some (.inl x4)] [.inl 1] M) : XW kX4_trying d (some .int) (wQi Q) 82 [some (.inr (.inr 56)), some (.inr (.inr x1)), some (.inl x2), some (.inl x3), some (.inl x4)] [] M := by
  refine x_iconst 1 rfl (by decide) ?_
  exact x_goto rfl k
theorem uX4_trying_86 {d : Nat} {Q : Int → yM → Prop} {M : yM} {x1 : Nat} {x2 : Int} {x3 : Int} {x4 : Int} (k : XW kX4_trying d (some .int) (wQi Q) 87 [some (.inr (.inr 56)), some (.inr (.inr x1)), some (.inl x2), some (.inl x3), some (.inl x4)] [.inl 0] M) : XW kX4_trying d (some .int) (wQi Q) 86 [some (.inr (.inr 56)), some (.inr (.inr x1)), some (.inl x2), some (.inl x3), some (.inl x4)] [] M := by
  refine x_iconst 0 rfl (by decide) ?_
  exact k
theorem uX4_trying_87 {d : Nat} {Q : Int → yM → Prop} {M : yM} {x1 : Nat} {x2 : Int} {x3 : Int} {x4 : Int} {s0 : Int} (k : XW kX4_trying d (some .int) (wQi Q) 26 [some (.inr (.inr 56)), some (.inr (.inr x1)), some (.inl x2), some (.inl s0), some (.inl (x4 + 1))] [] M) : XW kX4_trying d (some .int) (wQi Q) 87 [some (.inr (.inr 56)), some (.inr (.inr x1)), some (.inl x2), some (.inl x3), some (.inl x4)] [.inl s0] M := by
  refine x_istore_n rfl (Nat.le_of_ble_eq_true rfl) rfl ?_
  refine x_iinc 1 rfl (by decide) rfl rfl ?_
  exact x_goto rfl k
theorem uX4_trying_94 {d : Nat} {Q : Int → yM → Prop} {M : yM} {x1 : Nat} {x2 : Int} {x3 : Int} {x4 : Int} (k : Q x2 M) : XW kX4_trying d (some .int) (wQi Q) 94 [some (.inr (.inr 56)), some (.inr (.inr x1)), some (.inl x2), some (.inl x3), some (.inl x4)] [] M := by
  refine x_iload_n rfl rfl ?_
  exact x_ireturn rfl k
theorem eX4_someGo {d : Nat} {Q : Int → yM → Prop} {M : yM} {x1 : Nat}  (h : XW kX4_someGo d (some .boolean) (wQi Q) 0 [some (.inr (.inr 56)), some (.inr (.inr x1)), none, none, none, none, none, none] [] M) : XCi d 33 [.inr (.inr 56), .inr (.inr x1)] M Q :=
  XC.ofW (Mm := (yX4_someGo, cX4_someGo, 8, (some .boolean), 5, kX4_someGo)) rfl (rcv_ok sh56) rfl rfl h
theorem uX4_someGo_0 {d : Nat} {Q : Int → yM → Prop} {M : yM} {x1 : Nat} (k : XW kX4_someGo d (some .boolean) (wQi Q) 5 [some (.inr (.inr 56)), some (.inr (.inr x1)), some (.inr (.inl 0)), none, some (.inl 0), none, none, none] [] M) : XW kX4_someGo d (some .boolean) (wQi Q) 0 [some (.inr (.inr 56)), some (.inr (.inr x1)), none, none, none, none, none, none] [] M := by
  refine x_lconst 0 rfl (by decide) ?_
  refine x_lstore_n rfl (Nat.le_of_ble_eq_true rfl) rfl ?_
  refine x_iconst 0 rfl (by decide) ?_
  refine x_istore rfl (Nat.le_of_ble_eq_true rfl) rfl ?_
  exact k
theorem uX4_someGo_5 {d : Nat} {Q : Int → yM → Prop} {M : yM} {x1 : Nat} {x2 : Int} {x4 : Int} {wx5 : Option yV} {wx6 : Option yV} {wx7 : Option yV} (h1 : -2147483648 ≤ x4 ∧ x4 < 2147483648) (kt : x4 ≥ (ld M 19 0) → XW kX4_someGo d (some .boolean) (wQi Q) 157 [some (.inr (.inr 56)), some (.inr (.inr x1)), some (.inr (.inl x2)), none, some (.inl x4), wx5, wx6, wx7] [] M) (kf : x4 < (ld M 19 0) → XW kX4_someGo d (some .boolean) (wQi Q) 17 [some (.inr (.inr 56)), some (.inr (.inr x1)), some (.inr (.inl x2)), none, some (.inl x4), wx5, wx6, wx7] [] M) : XW kX4_someGo d (some .boolean) (wQi Q) 5 [some (.inr (.inr 56)), some (.inr (.inr x1)), some (.inr (.inl x2)), none, some (.inl x4), wx5, wx6, wx7] [] M := by
  refine x_iload rfl rfl ?_
  refine x_aload_n rfl rfl ?_
  refine x_getR rfl sh56 rfl ?_
  refine x_getI rfl sh19 rfl ?_
  exact x_icmpge rfl h1 (rng_ld _ _ _) kt kf
theorem uX4_someGo_17 {d : Nat} {Q : Int → yM → Prop} {M : yM} {x1 : Nat} {x2 : Int} {x4 : Int} {wx5 : Option yV} {wx6 : Option yV} {wx7 : Option yV} (k : XW kX4_someGo d (some .boolean) (wQi Q) 23 [some (.inr (.inr 56)), some (.inr (.inr x1)), some (.inr (.inl x2)), none, some (.inl x4), some (.inl (x4 + 1)), wx6, wx7] [] M) : XW kX4_someGo d (some .boolean) (wQi Q) 17 [some (.inr (.inr 56)), some (.inr (.inr x1)), some (.inr (.inl x2)), none, some (.inl x4), wx5, wx6, wx7] [] M := by
  refine x_iload rfl rfl ?_
  refine x_iconst 1 rfl (by decide) ?_
  refine x_iadd rfl ?_
  refine x_istore rfl (Nat.le_of_ble_eq_true rfl) rfl ?_
  exact k
theorem uX4_someGo_23 {d : Nat} {Q : Int → yM → Prop} {M : yM} {x1 : Nat} {x2 : Int} {x4 : Int} {x5 : Int} {wx6 : Option yV} {wx7 : Option yV} (h1 : -2147483648 ≤ x5 ∧ x5 < 2147483648) (kt : x5 ≥ (ld M 19 0) → XW kX4_someGo d (some .boolean) (wQi Q) 151 [some (.inr (.inr 56)), some (.inr (.inr x1)), some (.inr (.inl x2)), none, some (.inl x4), some (.inl x5), wx6, wx7] [] M) (kf : x5 < (ld M 19 0) → XW kX4_someGo d (some .boolean) (wQi Q) 35 [some (.inr (.inr 56)), some (.inr (.inr x1)), some (.inr (.inl x2)), none, some (.inl x4), some (.inl x5), wx6, wx7] [] M) : XW kX4_someGo d (some .boolean) (wQi Q) 23 [some (.inr (.inr 56)), some (.inr (.inr x1)), some (.inr (.inl x2)), none, some (.inl x4), some (.inl x5), wx6, wx7] [] M := by
  refine x_iload rfl rfl ?_
  refine x_aload_n rfl rfl ?_
  refine x_getR rfl sh56 rfl ?_
  refine x_getI rfl sh19 rfl ?_
  exact x_icmpge rfl h1 (rng_ld _ _ _) kt kf
theorem uX4_someGo_35 {d : Nat} {Q : Int → yM → Prop} {M : yM} {x1 : Nat} {x2 : Int} {x4 : Int} {x5 : Int} {wx6 : Option yV} {wx7 : Option yV} (k : XW kX4_someGo d (some .boolean) (wQi Q) 38 [some (.inr (.inr 56)), some (.inr (.inr x1)), some (.inr (.inl x2)), none, some (.inl x4), some (.inl x5), some (.inl 0), wx7] [] M) : XW kX4_someGo d (some .boolean) (wQi Q) 35 [some (.inr (.inr 56)), some (.inr (.inr x1)), some (.inr (.inl x2)), none, some (.inl x4), some (.inl x5), wx6, wx7] [] M := by
  refine x_iconst 0 rfl (by decide) ?_
  refine x_istore rfl (Nat.le_of_ble_eq_true rfl) rfl ?_
  exact k
theorem uX4_someGo_38 {d : Nat} {Q : Int → yM → Prop} {M : yM} {x1 : Nat} {x2 : Int} {x4 : Int} {x5 : Int} {x6 : Int} {wx7 : Option yV} (h1 : -2147483648 ≤ x6 ∧ x6 < 2147483648) (kt : x6 ≥ 8 → XW kX4_someGo d (some .boolean) (wQi Q) 145 [some (.inr (.inr 56)), some (.inr (.inr x1)), some (.inr (.inl x2)), none, some (.inl x4), some (.inl x5), some (.inl x6), wx7] [] M) (kf : x6 < 8 → XW kX4_someGo d (some .boolean) (wQi Q) 45 [some (.inr (.inr 56)), some (.inr (.inr x1)), some (.inr (.inl x2)), none, some (.inl x4), some (.inl x5), some (.inl x6), wx7] [] M) : XW kX4_someGo d (some .boolean) (wQi Q) 38 [some (.inr (.inr 56)), some (.inr (.inr x1)), some (.inr (.inl x2)), none, some (.inl x4), some (.inl x5), some (.inl x6), wx7] [] M := by
  refine x_iload rfl rfl ?_
  refine x_bipush 8 rfl (by decide) ?_
  exact x_icmpge rfl h1 (by decide) kt kf
theorem uX4_someGo_45 {d : Nat} {Q : Int → yM → Prop} {M : yM} {x1 : Nat} {x2 : Int} {x4 : Int} {x5 : Int} {x6 : Int} {wx7 : Option yV} (h1 : arrSh x1 64) (h2 : 0 ≤ ((8 * x4) + x5) ∧ ((8 * x4) + x5) < 64) (kt : (yand (yshr (ld M x1 ((8 * x4) + x5)) x6) 1) = 0 → XW kX4_someGo d (some .boolean) (wQi Q) 139 [some (.inr (.inr 56)), some (.inr (.inr x1)), some (.inr (.inl x2)), none, some (.inl x4), some (.inl x5), some (.inl x6), some (.inl ((8 * x4) + x5))] [] M) (kf : (yand (yshr (ld M x1 ((8 * x4) + x5)) x6) 1) ≠ 0 → XW kX4_someGo d (some .boolean) (wQi Q) 67 [some (.inr (.inr 56)), some (.inr (.inr x1)), some (.inr (.inl x2)), none, some (.inl x4), some (.inl x5), some (.inl x6), some (.inl ((8 * x4) + x5))] [] M) : XW kX4_someGo d (some .boolean) (wQi Q) 45 [some (.inr (.inr 56)), some (.inr (.inr x1)), some (.inr (.inl x2)), none, some (.inl x4), some (.inl x5), some (.inl x6), wx7] [] M := by
  refine x_bipush 8 rfl (by decide) ?_
  refine x_iload rfl rfl ?_
  refine x_imul rfl ?_
  refine x_iload rfl rfl ?_
  refine x_iadd rfl ?_
  refine x_istore rfl (Nat.le_of_ble_eq_true rfl) rfl ?_
  refine x_aload_n rfl rfl ?_
  refine x_iload rfl rfl ?_
  refine x_iaload rfl h1 h2 ?_
  refine x_iload rfl rfl ?_
  refine x_ishr rfl ?_
  refine x_iconst 1 rfl (by decide) ?_
  refine x_iand rfl ?_
  exact x_ifeq rfl (rng_yand _ _) kt kf
theorem uX4_someGo_67 {d : Nat} {Q : Int → yM → Prop} {M : yM} {x1 : Nat} {x2 : Int} {x4 : Int} {x5 : Int} {x6 : Int} {x7 : Int} (k : XCi d 34 [.inr (.inr 56), .inr (.inr x1), .inl x7, .inl x6, .inr (.inl x2)] M (fun v M' => XW kX4_someGo (d + 1) (some .boolean) (wQi Q) 77 [some (.inr (.inr 56)), some (.inr (.inr x1)), some (.inr (.inl x2)), none, some (.inl x4), some (.inl x5), some (.inl x6), some (.inl x7)] [.inl v] M')) : XW kX4_someGo (d + 1) (some .boolean) (wQi Q) 67 [some (.inr (.inr 56)), some (.inr (.inr x1)), some (.inr (.inl x2)), none, some (.inl x4), some (.inl x5), some (.inl x6), some (.inl x7)] [] M := by
  refine x_aload_n rfl rfl ?_
  refine x_aload_n rfl rfl ?_
  refine x_iload rfl rfl ?_
  refine x_iload rfl rfl ?_
  refine x_lload_n rfl rfl ?_
  exact x_calli (args := [.inr (.inr 56), .inr (.inr x1), .inl x7, .inl x6, .inr (.inl x2)]) rfl rfl rfl k
theorem uX4_someGo_77 {d : Nat} {Q : Int → yM → Prop} {M : yM} {x1 : Nat} {x2 : Int} {x4 : Int} {x5 : Int} {x6 : Int} {x7 : Int} {s0 : Int} (h1 : -2147483648 ≤ s0 ∧ s0 < 2147483648) (kt : s0 = 0 → XW kX4_someGo d (some .boolean) (wQi Q) 83 [some (.inr (.inr 56)), some (.inr (.inr x1)), some (.inr (.inl x2)), none, some (.inl x4), some (.inl x5), some (.inl x6), some (.inl x7)] [] M) (kf : s0 ≠ 0 → XW kX4_someGo d (some .boolean) (wQi Q) 80 [some (.inr (.inr 56)), some (.inr (.inr x1)), some (.inr (.inl x2)), none, some (.inl x4), some (.inl x5), some (.inl x6), some (.inl x7)] [] M) : XW kX4_someGo d (some .boolean) (wQi Q) 77 [some (.inr (.inr 56)), some (.inr (.inr x1)), some (.inr (.inl x2)), none, some (.inl x4), some (.inl x5), some (.inl x6), some (.inl x7)] [.inl s0] M := by
  exact x_ifeq rfl h1 kt kf
theorem uX4_someGo_80 {d : Nat} {Q : Int → yM → Prop} {M : yM} {x1 : Nat} {x2 : Int} {x4 : Int} {x5 : Int} {x6 : Int} {x7 : Int} (k : XW kX4_someGo d (some .boolean) (wQi Q) 139 [some (.inr (.inr 56)), some (.inr (.inr x1)), some (.inr (.inl x2)), none, some (.inl x4), some (.inl x5), some (.inl x6), some (.inl x7)] [] M) : XW kX4_someGo d (some .boolean) (wQi Q) 80 [some (.inr (.inr 56)), some (.inr (.inr x1)), some (.inr (.inl x2)), none, some (.inl x4), some (.inl x5), some (.inl x6), some (.inl x7)] [] M := by
  exact x_goto rfl k
theorem uX4_someGo_83 {d : Nat} {Q : Int → yM → Prop} {M : yM} {x1 : Nat} {x2 : Int} {x4 : Int} {x5 : Int} {x6 : Int} {x7 : Int} (h1 : arrSh x1 64) (h2 : 0 ≤ x7 ∧ x7 < 64) (h3 : 0 ≤ x7 ∧ x7 < 64) (k : ∀ M', M' = (put M x1 x7 (yand (ld M x1 x7) (yxor (yshl 1 x6) (-1)))) → XW kX4_someGo d (some .boolean) (wQi Q) 96 [some (.inr (.inr 56)), some (.inr (.inr x1)), some (.inr (.inl x2)), none, some (.inl x4), some (.inl x5), some (.inl x6), some (.inl x7)] [] M') : XW kX4_someGo d (some .boolean) (wQi Q) 83 [some (.inr (.inr 56)), some (.inr (.inr x1)), some (.inr (.inl x2)), none, some (.inl x4), some (.inl x5), some (.inl x6), some (.inl x7)] [] M := by
  refine x_aload_n rfl rfl ?_
  refine x_iload rfl rfl ?_
  refine x_dup2 rfl ?_
  refine x_iaload rfl h1 h2 ?_
  refine x_iconst 1 rfl (by decide) ?_
  refine x_iload rfl rfl ?_
  refine x_ishl rfl ?_
  refine x_iconst (-1) rfl (by decide) ?_
  refine x_ixor rfl ?_
  refine x_iand rfl ?_
  refine x_iastore rfl h1 h3  ?_
  exact k _ rfl
theorem uX4_someGo_96 {d : Nat} {Q : Int → yM → Prop} {M : yM} {x1 : Nat} {x2 : Int} {x4 : Int} {x5 : Int} {x6 : Int} {x7 : Int} (h1 : arrSh x1 64) (h2 : 0 ≤ x7 ∧ x7 < 64) (k : XCi d 70 [.inr (.inr 1), .inl (ld M x1 x7)] M (fun v M' => XW kX4_someGo (d + 1) (some .boolean) (wQi Q) 119 [some (.inr (.inr 56)), some (.inr (.inr x1)), some (.inr (.inl x2)), none, some (.inl x4), some (.inl x5), some (.inl x6), some (.inl x7)] [.inl v, .inl ((8 * x5) + x4), .inr (.inr x1)] M')) : XW kX4_someGo (d + 1) (some .boolean) (wQi Q) 96 [some (.inr (.inr 56)), some (.inr (.inr x1)), some (.inr (.inl x2)), none, some (.inl x4), some (.inl x5), some (.inl x6), some (.inl x7)] [] M := by
  refine x_aload_n rfl rfl ?_
  refine x_bipush 8 rfl (by decide) ?_
  refine x_iload rfl rfl ?_
  refine x_imul rfl ?_
  refine x_iload rfl rfl ?_
  refine x_iadd rfl ?_
  refine x_aload_n rfl rfl ?_
  refine x_getR rfl sh56 rfl ?_
  refine x_getR rfl sh21 rfl ?_
  refine x_aload_n rfl rfl ?_
  refine x_iload rfl rfl ?_
  refine x_iaload rfl h1 h2 ?_
  exact x_calli (args := [.inr (.inr 1), .inl (ld M x1 x7)]) rfl rfl rfl k
theorem uX4_someGo_119 {d : Nat} {Q : Int → yM → Prop} {M : yM} {x1 : Nat} {x2 : Int} {x4 : Int} {x5 : Int} {x6 : Int} {x7 : Int} {s0 : Int} {s1 : Int} {s2 : Nat} (h1 : arrSh s2 64) (h2 : 0 ≤ s1 ∧ s1 < 64) (k : ∀ M', M' = (put M s2 s1 s0) → XW kX4_someGo d (some .boolean) (wQi Q) 120 [some (.inr (.inr 56)), some (.inr (.inr x1)), some (.inr (.inl x2)), none, some (.inl x4), some (.inl x5), some (.inl x6), some (.inl x7)] [] M') : XW kX4_someGo d (some .boolean) (wQi Q) 119 [some (.inr (.inr 56)), some (.inr (.inr x1)), some (.inr (.inl x2)), none, some (.inl x4), some (.inl x5), some (.inl x6), some (.inl x7)] [.inl s0, .inl s1, .inr (.inr s2)] M := by
  refine x_iastore rfl h1 h2  ?_
  exact k _ rfl
theorem uX4_someGo_120 {d : Nat} {Q : Int → yM → Prop} {M : yM} {x1 : Nat} {x2 : Int} {x4 : Int} {x5 : Int} {x6 : Int} {x7 : Int} (k : XCl d 118 [.inl x4, .inl x5] M (fun v M' => XW kX4_someGo (d + 1) (some .boolean) (wQi Q) 128 [some (.inr (.inr 56)), some (.inr (.inr x1)), some (.inr (.inl x2)), none, some (.inl x4), some (.inl x5), some (.inl x6), some (.inl x7)] [.inr (.inl v), .inr (.inl x2)] M')) : XW kX4_someGo (d + 1) (some .boolean) (wQi Q) 120 [some (.inr (.inr 56)), some (.inr (.inr x1)), some (.inr (.inl x2)), none, some (.inl x4), some (.inl x5), some (.inl x6), some (.inl x7)] [] M := by
  refine x_lload_n rfl rfl ?_
  refine x_iload rfl rfl ?_
  refine x_iload rfl rfl ?_
  exact x_calll (args := [.inl x4, .inl x5]) rfl rfl rfl k
theorem uX4_someGo_128 {d : Nat} {Q : Int → yM → Prop} {M : yM} {x1 : Nat} {x2 : Int} {x4 : Int} {x5 : Int} {x6 : Int} {x7 : Int} {s0 : Int} {s1 : Int} (h1 : arrSh x1 64) (h2 : 0 ≤ x7 ∧ x7 < 64) (kt : (ld M x1 x7) ≠ 0 → XW kX4_someGo d (some .boolean) (wQi Q) 139 [some (.inr (.inr 56)), some (.inr (.inr x1)), some (.inr (.inl (zor s1 s0))), none, some (.inl x4), some (.inl x5), some (.inl x6), some (.inl x7)] [] M) (kf : (ld M x1 x7) = 0 → XW kX4_someGo d (some .boolean) (wQi Q) 137 [some (.inr (.inr 56)), some (.inr (.inr x1)), some (.inr (.inl (zor s1 s0))), none, some (.inl x4), some (.inl x5), some (.inl x6), some (.inl x7)] [] M) : XW kX4_someGo d (some .boolean) (wQi Q) 128 [some (.inr (.inr 56)), some (.inr (.inr x1)), some (.inr (.inl x2)), none, some (.inl x4), some (.inl x5), some (.inl x6), some (.inl x7)] [.inr (.inl s0), .inr (.inl s1)] M := by
  refine x_lor rfl ?_
  refine x_lstore_n rfl (Nat.le_of_ble_eq_true rfl) rfl ?_
  refine x_aload_n rfl rfl ?_
  refine x_iload rfl rfl ?_
  refine x_iaload rfl h1 h2 ?_
  exact x_ifne rfl (rng_ld _ _ _) kt kf
theorem uX4_someGo_137 {d : Nat} {Q : Int → yM → Prop} {M : yM} {x1 : Nat} {x2 : Int} {x4 : Int} {x5 : Int} {x6 : Int} {x7 : Int} (k : Q 1 M) : XW kX4_someGo d (some .boolean) (wQi Q) 137 [some (.inr (.inr 56)), some (.inr (.inr x1)), some (.inr (.inl x2)), none, some (.inl x4), some (.inl x5), some (.inl x6), some (.inl x7)] [] M := by
  refine x_iconst 1 rfl (by decide) ?_
  exact x_zreturn rfl (by decide) k
theorem uX4_someGo_139 {d : Nat} {Q : Int → yM → Prop} {M : yM} {x1 : Nat} {x2 : Int} {x4 : Int} {x5 : Int} {x6 : Int} {x7 : Int} (k : XW kX4_someGo d (some .boolean) (wQi Q) 38 [some (.inr (.inr 56)), some (.inr (.inr x1)), some (.inr (.inl x2)), none, some (.inl x4), some (.inl x5), some (.inl (x6 + 1)), some (.inl x7)] [] M) : XW kX4_someGo d (some .boolean) (wQi Q) 139 [some (.inr (.inr 56)), some (.inr (.inr x1)), some (.inr (.inl x2)), none, some (.inl x4), some (.inl x5), some (.inl x6), some (.inl x7)] [] M := by
  refine x_iinc 1 rfl (by decide) rfl rfl ?_
  exact x_goto rfl k
theorem uX4_someGo_145 {d : Nat} {Q : Int → yM → Prop} {M : yM} {x1 : Nat} {x2 : Int} {x4 : Int} {x5 : Int} {x6 : Int} {wx7 : Option yV} (k : XW kX4_someGo d (some .boolean) (wQi Q) 23 [some (.inr (.inr 56)), some (.inr (.inr x1)), some (.inr (.inl x2)), none, some (.inl x4), some (.inl (x5 + 1)), some (.inl x6), wx7] [] M) : XW kX4_someGo d (some .boolean) (wQi Q) 145 [some (.inr (.inr 56)), some (.inr (.inr x1)), some (.inr (.inl x2)), none, some (.inl x4), some (.inl x5), some (.inl x6), wx7] [] M := by
  refine x_iinc 1 rfl (by decide) rfl rfl ?_
  exact x_goto rfl k
theorem uX4_someGo_151 {d : Nat} {Q : Int → yM → Prop} {M : yM} {x1 : Nat} {x2 : Int} {x4 : Int} {x5 : Int} {wx6 : Option yV} {wx7 : Option yV} (k : XW kX4_someGo d (some .boolean) (wQi Q) 5 [some (.inr (.inr 56)), some (.inr (.inr x1)), some (.inr (.inl x2)), none, some (.inl (x4 + 1)), some (.inl x5), wx6, wx7] [] M) : XW kX4_someGo d (some .boolean) (wQi Q) 151 [some (.inr (.inr 56)), some (.inr (.inr x1)), some (.inr (.inl x2)), none, some (.inl x4), some (.inl x5), wx6, wx7] [] M := by
  refine x_iinc 1 rfl (by decide) rfl rfl ?_
  exact x_goto rfl k
theorem uX4_someGo_157 {d : Nat} {Q : Int → yM → Prop} {M : yM} {x1 : Nat} {x2 : Int} {x4 : Int} {wx5 : Option yV} {wx6 : Option yV} {wx7 : Option yV} (h1 : -2147483648 ≤ (zcmp x2 0) ∧ (zcmp x2 0) < 2147483648) (kt : (zcmp x2 0) = 0 → XW kX4_someGo d (some .boolean) (wQi Q) 167 [some (.inr (.inr 56)), some (.inr (.inr x1)), some (.inr (.inl x2)), none, some (.inl x4), wx5, wx6, wx7] [] M) (kf : (zcmp x2 0) ≠ 0 → XW kX4_someGo d (some .boolean) (wQi Q) 163 [some (.inr (.inr 56)), some (.inr (.inr x1)), some (.inr (.inl x2)), none, some (.inl x4), wx5, wx6, wx7] [] M) : XW kX4_someGo d (some .boolean) (wQi Q) 157 [some (.inr (.inr 56)), some (.inr (.inr x1)), some (.inr (.inl x2)), none, some (.inl x4), wx5, wx6, wx7] [] M := by
  refine x_lload_n rfl rfl ?_
  refine x_lconst 0 rfl (by decide) ?_
  refine x_lcmp rfl ?_
  exact x_ifeq rfl h1 kt kf
theorem uX4_someGo_163 {d : Nat} {Q : Int → yM → Prop} {M : yM} {x1 : Nat} {x2 : Int} {x4 : Int} {wx5 : Option yV} {wx6 : Option yV} {wx7 : Option yV} (k : XW kX4_someGo d (some .boolean) (wQi Q) 168 [some (.inr (.inr 56)), some (.inr (.inr x1)), some (.inr (.inl x2)), none, some (.inl x4), wx5, wx6, wx7] [.inl 1] M) : XW kX4_someGo d (some .boolean) (wQi Q) 163 [some (.inr (.inr 56)), some (.inr (.inr x1)), some (.inr (.inl x2)), none, some (.inl x4), wx5, wx6, wx7] [] M := by
  refine x_iconst 1 rfl (by decide) ?_
  exact x_goto rfl k
theorem uX4_someGo_167 {d : Nat} {Q : Int → yM → Prop} {M : yM} {x1 : Nat} {x2 : Int} {x4 : Int} {wx5 : Option yV} {wx6 : Option yV} {wx7 : Option yV} (k : XW kX4_someGo d (some .boolean) (wQi Q) 168 [some (.inr (.inr 56)), some (.inr (.inr x1)), some (.inr (.inl x2)), none, some (.inl x4), wx5, wx6, wx7] [.inl 0] M) : XW kX4_someGo d (some .boolean) (wQi Q) 167 [some (.inr (.inr 56)), some (.inr (.inr x1)), some (.inr (.inl x2)), none, some (.inl x4), wx5, wx6, wx7] [] M := by
  refine x_iconst 0 rfl (by decide) ?_
  exact k
theorem uX4_someGo_168 {d : Nat} {Q : Int → yM → Prop} {M : yM} {x1 : Nat} {x2 : Int} {x4 : Int} {wx5 : Option yV} {wx6 : Option yV} {wx7 : Option yV} {s0 : Int} (h1 : s0 = 0 ∨ s0 = 1) (k : Q s0 M) : XW kX4_someGo d (some .boolean) (wQi Q) 168 [some (.inr (.inr 56)), some (.inr (.inr x1)), some (.inr (.inl x2)), none, some (.inl x4), wx5, wx6, wx7] [.inl s0] M := by
  exact x_zreturn rfl h1 k
theorem eX4_stays {d : Nat} {Q : Int → yM → Prop} {M : yM} {x1 : Nat} {x2 : Int} {x3 : Int} {x4 : Int}  (h : XW kX4_stays d (some .boolean) (wQi Q) 0 [some (.inr (.inr 56)), some (.inr (.inr x1)), some (.inl x2), some (.inl x3), some (.inr (.inl x4)), none] [] M) : XCi d 34 [.inr (.inr 56), .inr (.inr x1), .inl x2, .inl x3, .inr (.inl x4)] M Q :=
  XC.ofW (Mm := (yX4_stays, cX4_stays, 6, (some .boolean), 5, kX4_stays)) rfl (rcv_ok sh56) rfl rfl h
theorem uX4_stays_0 {d : Nat} {Q : Int → yM → Prop} {M : yM} {x1 : Nat} {x2 : Int} {x3 : Int} {x4 : Int} (h1 : arrSh x1 64) (k : ∀ M', M' = (cpy M x1 64 0 0 64) → XW kX4_stays d (some .boolean) (wQi Q) 12 [some (.inr (.inr 56)), some (.inr (.inr x1)), some (.inl x2), some (.inl x3), some (.inr (.inl x4)), none] [] M') : XW kX4_stays d (some .boolean) (wQi Q) 0 [some (.inr (.inr 56)), some (.inr (.inr x1)), some (.inl x2), some (.inl x3), some (.inr (.inl x4)), none] [] M := by
  refine x_aload_n rfl rfl ?_
  refine x_iconst 0 rfl (by decide) ?_
  refine x_aload_n rfl rfl ?_
  refine x_getR rfl sh56 rfl ?_
  refine x_iconst 0 rfl (by decide) ?_
  refine x_bipush 64 rfl (by decide) ?_
  refine x_cpy rfl h1 ⟨sh64, Nat.le_of_ble_eq_true rfl⟩ (by decide) (Nat.le_of_ble_eq_true rfl) ?_
  exact k _ rfl
theorem uX4_stays_12 {d : Nat} {Q : Int → yM → Prop} {M : yM} {x1 : Nat} {x2 : Int} {x3 : Int} {x4 : Int} (k : XCv d 58 [.inr (.inr 21), .inr (.inr 64), .inl x2, .inl x3] M (fun M' => XW kX4_stays (d + 1) (some .boolean) (wQi Q) 25 [some (.inr (.inr 56)), some (.inr (.inr x1)), some (.inl x2), some (.inl x3), some (.inr (.inl x4)), none] [] M')) : XW kX4_stays (d + 1) (some .boolean) (wQi Q) 12 [some (.inr (.inr 56)), some (.inr (.inr x1)), some (.inl x2), some (.inl x3), some (.inr (.inl x4)), none] [] M := by
  refine x_aload_n rfl rfl ?_
  refine x_getR rfl sh56 rfl ?_
  refine x_aload_n rfl rfl ?_
  refine x_getR rfl sh56 rfl ?_
  refine x_iload_n rfl rfl ?_
  refine x_iload_n rfl rfl ?_
  exact x_callv (args := [.inr (.inr 21), .inr (.inr 64), .inl x2, .inl x3]) rfl rfl rfl k
theorem uX4_stays_25 {d : Nat} {Q : Int → yM → Prop} {M : yM} {x1 : Nat} {x2 : Int} {x3 : Int} {x4 : Int} (k : XCi d 57 [.inr (.inr 21), .inr (.inr 64), .inl (ld M 19 0), .inr (.inl (zor x4 (zshl 1 x2)))] M (fun v M' => XW kX4_stays (d + 1) (some .boolean) (wQi Q) 49 [some (.inr (.inr 56)), some (.inr (.inr x1)), some (.inl x2), some (.inl x3), some (.inr (.inl x4)), none] [.inl v] M')) : XW kX4_stays (d + 1) (some .boolean) (wQi Q) 25 [some (.inr (.inr 56)), some (.inr (.inr x1)), some (.inl x2), some (.inl x3), some (.inr (.inl x4)), none] [] M := by
  refine x_aload_n rfl rfl ?_
  refine x_getR rfl sh56 rfl ?_
  refine x_aload_n rfl rfl ?_
  refine x_getR rfl sh56 rfl ?_
  refine x_aload_n rfl rfl ?_
  refine x_getR rfl sh56 rfl ?_
  refine x_getI rfl sh19 rfl ?_
  refine x_lload rfl rfl ?_
  refine x_lconst 1 rfl (by decide) ?_
  refine x_iload_n rfl rfl ?_
  refine x_lshl rfl ?_
  refine x_lor rfl ?_
  exact x_calli (args := [.inr (.inr 21), .inr (.inr 64), .inl (ld M 19 0), .inr (.inl (zor x4 (zshl 1 x2)))]) rfl rfl rfl k
theorem uX4_stays_49 {d : Nat} {Q : Int → yM → Prop} {M : yM} {x1 : Nat} {x2 : Int} {x3 : Int} {x4 : Int} {s0 : Int} (h1 : s0 = 0 ∨ s0 = 1) (k : Q s0 M) : XW kX4_stays d (some .boolean) (wQi Q) 49 [some (.inr (.inr 56)), some (.inr (.inr x1)), some (.inl x2), some (.inl x3), some (.inr (.inl x4)), none] [.inl s0] M := by
  exact x_zreturn rfl h1 k
theorem eX5_free {d : Nat} {Q : yM → Prop} {M : yM} {x1 : Int} {x2 : Int}  (h : XW kX5_free d none (wQv Q) 0 [some (.inr (.inr 19)), some (.inl x1), some (.inl x2), none, none] [] M) : XCv d 36 [.inr (.inr 19), .inl x1, .inl x2] M Q :=
  XC.ofW (Mm := (yX5_free, cX5_free, 5, none, 6, kX5_free)) rfl (rcv_ok sh19) rfl rfl h
theorem uX5_free_0 {d : Nat} {Q : yM → Prop} {M : yM} {x1 : Int} {x2 : Int} (k : ∀ M', M' = (put M 19 0 x1) → XW kX5_free d none (wQv Q) 5 [some (.inr (.inr 19)), some (.inl x1), some (.inl x2), none, none] [] M') : XW kX5_free d none (wQv Q) 0 [some (.inr (.inr 19)), some (.inl x1), some (.inl x2), none, none] [] M := by
  refine x_aload_n rfl rfl ?_
  refine x_iload_n rfl rfl ?_
  refine x_putI rfl rfl sh19 rfl ?_
  exact k _ rfl
theorem uX5_free_5 {d : Nat} {Q : yM → Prop} {M : yM} {x1 : Int} {x2 : Int} (k : XW kX5_free d none (wQv Q) 7 [some (.inr (.inr 19)), some (.inl x1), some (.inl x2), some (.inl 0), none] [] M) : XW kX5_free d none (wQv Q) 5 [some (.inr (.inr 19)), some (.inl x1), some (.inl x2), none, none] [] M := by
  refine x_iconst 0 rfl (by decide) ?_
  refine x_istore_n rfl (Nat.le_of_ble_eq_true rfl) rfl ?_
  exact k
theorem uX5_free_7 {d : Nat} {Q : yM → Prop} {M : yM} {x1 : Int} {x2 : Int} {x3 : Int} {wx4 : Option yV} (h1 : -2147483648 ≤ x3 ∧ x3 < 2147483648) (kt : x3 ≥ 8 → XW kX5_free d none (wQv Q) 58 [some (.inr (.inr 19)), some (.inl x1), some (.inl x2), some (.inl x3), wx4] [] M) (kf : x3 < 8 → XW kX5_free d none (wQv Q) 13 [some (.inr (.inr 19)), some (.inl x1), some (.inl x2), some (.inl x3), wx4] [] M) : XW kX5_free d none (wQv Q) 7 [some (.inr (.inr 19)), some (.inl x1), some (.inl x2), some (.inl x3), wx4] [] M := by
  refine x_iload_n rfl rfl ?_
  refine x_bipush 8 rfl (by decide) ?_
  exact x_icmpge rfl h1 (by decide) kt kf
theorem uX5_free_13 {d : Nat} {Q : yM → Prop} {M : yM} {x1 : Int} {x2 : Int} {x3 : Int} {wx4 : Option yV} (k : XW kX5_free d none (wQv Q) 16 [some (.inr (.inr 19)), some (.inl x1), some (.inl x2), some (.inl x3), some (.inl 0)] [] M) : XW kX5_free d none (wQv Q) 13 [some (.inr (.inr 19)), some (.inl x1), some (.inl x2), some (.inl x3), wx4] [] M := by
  refine x_iconst 0 rfl (by decide) ?_
  refine x_istore rfl (Nat.le_of_ble_eq_true rfl) rfl ?_
  exact k
theorem uX5_free_16 {d : Nat} {Q : yM → Prop} {M : yM} {x1 : Int} {x2 : Int} {x3 : Int} {x4 : Int} (h1 : -2147483648 ≤ x4 ∧ x4 < 2147483648) (kt : x4 ≥ 8 → XW kX5_free d none (wQv Q) 52 [some (.inr (.inr 19)), some (.inl x1), some (.inl x2), some (.inl x3), some (.inl x4)] [] M) (kf : x4 < 8 → XW kX5_free d none (wQv Q) 23 [some (.inr (.inr 19)), some (.inl x1), some (.inl x2), some (.inl x3), some (.inl x4)] [] M) : XW kX5_free d none (wQv Q) 16 [some (.inr (.inr 19)), some (.inl x1), some (.inl x2), some (.inl x3), some (.inl x4)] [] M := by
  refine x_iload rfl rfl ?_
  refine x_bipush 8 rfl (by decide) ?_
  exact x_icmpge rfl h1 (by decide) kt kf
theorem uX5_free_23 {d : Nat} {Q : yM → Prop} {M : yM} {x1 : Int} {x2 : Int} {x3 : Int} {x4 : Int} (h1 : -2147483648 ≤ x3 ∧ x3 < 2147483648) (h2 : -2147483648 ≤ x4 ∧ x4 < 2147483648) (kt : x3 ≠ x4 → XW kX5_free d none (wQv Q) 44 [some (.inr (.inr 19)), some (.inl x1), some (.inl x2), some (.inl x3), some (.inl x4)] [.inl ((8 * x3) + x4), .inr (.inr 20)] M) (kf : x3 = x4 → XW kX5_free d none (wQv Q) 40 [some (.inr (.inr 19)), some (.inl x1), some (.inl x2), some (.inl x3), some (.inl x4)] [.inl ((8 * x3) + x4), .inr (.inr 20)] M) : XW kX5_free d none (wQv Q) 23 [some (.inr (.inr 19)), some (.inl x1), some (.inl x2), some (.inl x3), some (.inl x4)] [] M := by
  refine x_aload_n rfl rfl ?_
  refine x_getR rfl sh19 rfl ?_
  refine x_bipush 8 rfl (by decide) ?_
  refine x_iload_n rfl rfl ?_
  refine x_imul rfl ?_
  refine x_iload rfl rfl ?_
  refine x_iadd rfl ?_
  refine x_iload_n rfl rfl ?_
  refine x_iload rfl rfl ?_
  exact x_icmpne rfl h1 h2 kt kf
theorem uX5_free_40 {d : Nat} {Q : yM → Prop} {M : yM} {x1 : Int} {x2 : Int} {x3 : Int} {x4 : Int} {s0 : Int} (k : XW kX5_free d none (wQv Q) 45 [some (.inr (.inr 19)), some (.inl x1), some (.inl x2), some (.inl x3), some (.inl x4)] [.inl 1, .inl s0, .inr (.inr 20)] M) : XW kX5_free d none (wQv Q) 40 [some (.inr (.inr 19)), some (.inl x1), some (.inl x2), some (.inl x3), some (.inl x4)] [.inl s0, .inr (.inr 20)] M := by
  refine x_iconst 1 rfl (by decide) ?_
  exact x_goto rfl k
theorem uX5_free_44 {d : Nat} {Q : yM → Prop} {M : yM} {x1 : Int} {x2 : Int} {x3 : Int} {x4 : Int} {s0 : Int} (k : XW kX5_free d none (wQv Q) 45 [some (.inr (.inr 19)), some (.inl x1), some (.inl x2), some (.inl x3), some (.inl x4)] [.inl x2, .inl s0, .inr (.inr 20)] M) : XW kX5_free d none (wQv Q) 44 [some (.inr (.inr 19)), some (.inl x1), some (.inl x2), some (.inl x3), some (.inl x4)] [.inl s0, .inr (.inr 20)] M := by
  refine x_iload_n rfl rfl ?_
  exact k
theorem uX5_free_45 {d : Nat} {Q : yM → Prop} {M : yM} {x1 : Int} {x2 : Int} {x3 : Int} {x4 : Int} {s0 : Int} {s1 : Int} (h1 : 0 ≤ s1 ∧ s1 < 64) (k : ∀ M', M' = (put M 20 s1 s0) → XW kX5_free d none (wQv Q) 46 [some (.inr (.inr 19)), some (.inl x1), some (.inl x2), some (.inl x3), some (.inl x4)] [] M') : XW kX5_free d none (wQv Q) 45 [some (.inr (.inr 19)), some (.inl x1), some (.inl x2), some (.inl x3), some (.inl x4)] [.inl s0, .inl s1, .inr (.inr 20)] M := by
  refine x_iastore rfl ⟨sh20, Nat.le_of_ble_eq_true rfl⟩ h1  ?_
  exact k _ rfl
theorem uX5_free_46 {d : Nat} {Q : yM → Prop} {M : yM} {x1 : Int} {x2 : Int} {x3 : Int} {x4 : Int} (k : XW kX5_free d none (wQv Q) 16 [some (.inr (.inr 19)), some (.inl x1), some (.inl x2), some (.inl x3), some (.inl (x4 + 1))] [] M) : XW kX5_free d none (wQv Q) 46 [some (.inr (.inr 19)), some (.inl x1), some (.inl x2), some (.inl x3), some (.inl x4)] [] M := by
  refine x_iinc 1 rfl (by decide) rfl rfl ?_
  exact x_goto rfl k
theorem uX5_free_52 {d : Nat} {Q : yM → Prop} {M : yM} {x1 : Int} {x2 : Int} {x3 : Int} {x4 : Int} (k : XW kX5_free d none (wQv Q) 7 [some (.inr (.inr 19)), some (.inl x1), some (.inl x2), some (.inl (x3 + 1)), some (.inl x4)] [] M) : XW kX5_free d none (wQv Q) 52 [some (.inr (.inr 19)), some (.inl x1), some (.inl x2), some (.inl x3), some (.inl x4)] [] M := by
  refine x_iinc 1 rfl (by decide) rfl rfl ?_
  exact x_goto rfl k
theorem uX5_free_58 {d : Nat} {Q : yM → Prop} {M : yM} {x1 : Int} {x2 : Int} {x3 : Int} {wx4 : Option yV} (k : Q M) : XW kX5_free d none (wQv Q) 58 [some (.inr (.inr 19)), some (.inl x1), some (.inl x2), some (.inl x3), wx4] [] M := by
  exact x_return rfl k
theorem eX5_has {d : Nat} {Q : Int → yM → Prop} {M : yM} {x1 : Int}  (h : XW kX5_has d (some .boolean) (wQi Q) 0 [some (.inr (.inr 19)), some (.inl x1)] [] M) : XCi d 37 [.inr (.inr 19), .inl x1] M Q :=
  XC.ofW (Mm := (yX5_has, cX5_has, 2, (some .boolean), 6, kX5_has)) rfl (rcv_ok sh19) rfl rfl h
theorem uX5_has_0 {d : Nat} {Q : Int → yM → Prop} {M : yM} {x1 : Int} (h1 : -2147483648 ≤ x1 ∧ x1 < 2147483648) (kt : x1 < 0 → XW kX5_has d (some .boolean) (wQi Q) 16 [some (.inr (.inr 19)), some (.inl x1)] [] M) (kf : x1 ≥ 0 → XW kX5_has d (some .boolean) (wQi Q) 4 [some (.inr (.inr 19)), some (.inl x1)] [] M) : XW kX5_has d (some .boolean) (wQi Q) 0 [some (.inr (.inr 19)), some (.inl x1)] [] M := by
  refine x_iload_n rfl rfl ?_
  exact x_iflt rfl h1 kt kf
theorem uX5_has_4 {d : Nat} {Q : Int → yM → Prop} {M : yM} {x1 : Int} (h1 : -2147483648 ≤ x1 ∧ x1 < 2147483648) (kt : x1 ≥ (ld M 19 0) → XW kX5_has d (some .boolean) (wQi Q) 16 [some (.inr (.inr 19)), some (.inl x1)] [] M) (kf : x1 < (ld M 19 0) → XW kX5_has d (some .boolean) (wQi Q) 12 [some (.inr (.inr 19)), some (.inl x1)] [] M) : XW kX5_has d (some .boolean) (wQi Q) 4 [some (.inr (.inr 19)), some (.inl x1)] [] M := by
  refine x_iload_n rfl rfl ?_
  refine x_aload_n rfl rfl ?_
  refine x_getI rfl sh19 rfl ?_
  exact x_icmpge rfl h1 (rng_ld _ _ _) kt kf
theorem uX5_has_12 {d : Nat} {Q : Int → yM → Prop} {M : yM} {x1 : Int} (k : XW kX5_has d (some .boolean) (wQi Q) 17 [some (.inr (.inr 19)), some (.inl x1)] [.inl 1] M) : XW kX5_has d (some .boolean) (wQi Q) 12 [some (.inr (.inr 19)), some (.inl x1)] [] M := by
  refine x_iconst 1 rfl (by decide) ?_
  exact x_goto rfl k
theorem uX5_has_16 {d : Nat} {Q : Int → yM → Prop} {M : yM} {x1 : Int} (k : XW kX5_has d (some .boolean) (wQi Q) 17 [some (.inr (.inr 19)), some (.inl x1)] [.inl 0] M) : XW kX5_has d (some .boolean) (wQi Q) 16 [some (.inr (.inr 19)), some (.inl x1)] [] M := by
  refine x_iconst 0 rfl (by decide) ?_
  exact k
theorem uX5_has_17 {d : Nat} {Q : Int → yM → Prop} {M : yM} {x1 : Int} {s0 : Int} (h1 : s0 = 0 ∨ s0 = 1) (k : Q s0 M) : XW kX5_has d (some .boolean) (wQi Q) 17 [some (.inr (.inr 19)), some (.inl x1)] [.inl s0] M := by
  exact x_zreturn rfl h1 k
theorem eX6_forget {d : Nat} {Q : yM → Prop} {M : yM}   (h : XW kX6_forget d none (wQv Q) 0 [some (.inr (.inr 69))] [] M) : XCv d 39 [.inr (.inr 69)] M Q :=
  XC.ofW (Mm := (yX6_forget, cX6_forget, 1, none, 7, kX6_forget)) rfl (rcv_ok sh69) rfl rfl h
theorem uX6_forget_0 {d : Nat} {Q : yM → Prop} {M : yM}  (k : ∀ M', M' = (put M 69 9 0) → XW kX6_forget d none (wQv Q) 5 [some (.inr (.inr 69))] [] M') : XW kX6_forget d none (wQv Q) 0 [some (.inr (.inr 69))] [] M := by
  refine x_aload_n rfl rfl ?_
  refine x_iconst 0 rfl (by decide) ?_
  refine x_putZ rfl rfl sh69 rfl (by decide) ?_
  exact k _ rfl
theorem uX6_forget_5 {d : Nat} {Q : yM → Prop} {M : yM}  (k : Q M) : XW kX6_forget d none (wQv Q) 5 [some (.inr (.inr 69))] [] M := by
  exact x_return rfl k
theorem eX6_listPairs {d : Nat} {Q : Int → yM → Prop} {M : yM}   (h : XW kX6_listPairs d (some .boolean) (wQi Q) 0 [some (.inr (.inr 69)), none, none] [] M) : XCi d 40 [.inr (.inr 69)] M Q :=
  XC.ofW (Mm := (yX6_listPairs, cX6_listPairs, 3, (some .boolean), 7, kX6_listPairs)) rfl (rcv_ok sh69) rfl rfl h
theorem uX6_listPairs_0 {d : Nat} {Q : Int → yM → Prop} {M : yM}  (k : ∀ M', M' = (put M 69 6 0) → XW kX6_listPairs d (some .boolean) (wQi Q) 5 [some (.inr (.inr 69)), none, none] [] M') : XW kX6_listPairs d (some .boolean) (wQi Q) 0 [some (.inr (.inr 69)), none, none] [] M := by
  refine x_aload_n rfl rfl ?_
  refine x_iconst 0 rfl (by decide) ?_
  refine x_putI rfl rfl sh69 rfl ?_
  exact k _ rfl
theorem uX6_listPairs_5 {d : Nat} {Q : Int → yM → Prop} {M : yM}  (k : XW kX6_listPairs d (some .boolean) (wQi Q) 7 [some (.inr (.inr 69)), some (.inl 0), none] [] M) : XW kX6_listPairs d (some .boolean) (wQi Q) 5 [some (.inr (.inr 69)), none, none] [] M := by
  refine x_iconst 0 rfl (by decide) ?_
  refine x_istore_n rfl (Nat.le_of_ble_eq_true rfl) rfl ?_
  exact k
theorem uX6_listPairs_7 {d : Nat} {Q : Int → yM → Prop} {M : yM} {x1 : Int} {wx2 : Option yV} (h1 : -2147483648 ≤ x1 ∧ x1 < 2147483648) (kt : x1 ≥ (ld M 19 0) → XW kX6_listPairs d (some .boolean) (wQi Q) 105 [some (.inr (.inr 69)), some (.inl x1), wx2] [] M) (kf : x1 < (ld M 19 0) → XW kX6_listPairs d (some .boolean) (wQi Q) 18 [some (.inr (.inr 69)), some (.inl x1), wx2] [] M) : XW kX6_listPairs d (some .boolean) (wQi Q) 7 [some (.inr (.inr 69)), some (.inl x1), wx2] [] M := by
  refine x_iload_n rfl rfl ?_
  refine x_aload_n rfl rfl ?_
  refine x_getR rfl sh69 rfl ?_
  refine x_getI rfl sh19 rfl ?_
  exact x_icmpge rfl h1 (rng_ld _ _ _) kt kf
theorem uX6_listPairs_18 {d : Nat} {Q : Int → yM → Prop} {M : yM} {x1 : Int} {wx2 : Option yV} (k : XW kX6_listPairs d (some .boolean) (wQi Q) 22 [some (.inr (.inr 69)), some (.inl x1), some (.inl (x1 + 1))] [] M) : XW kX6_listPairs d (some .boolean) (wQi Q) 18 [some (.inr (.inr 69)), some (.inl x1), wx2] [] M := by
  refine x_iload_n rfl rfl ?_
  refine x_iconst 1 rfl (by decide) ?_
  refine x_iadd rfl ?_
  refine x_istore_n rfl (Nat.le_of_ble_eq_true rfl) rfl ?_
  exact k
theorem uX6_listPairs_22 {d : Nat} {Q : Int → yM → Prop} {M : yM} {x1 : Int} {x2 : Int} (h1 : -2147483648 ≤ x2 ∧ x2 < 2147483648) (kt : x2 ≥ (ld M 19 0) → XW kX6_listPairs d (some .boolean) (wQi Q) 99 [some (.inr (.inr 69)), some (.inl x1), some (.inl x2)] [] M) (kf : x2 < (ld M 19 0) → XW kX6_listPairs d (some .boolean) (wQi Q) 33 [some (.inr (.inr 69)), some (.inl x1), some (.inl x2)] [] M) : XW kX6_listPairs d (some .boolean) (wQi Q) 22 [some (.inr (.inr 69)), some (.inl x1), some (.inl x2)] [] M := by
  refine x_iload_n rfl rfl ?_
  refine x_aload_n rfl rfl ?_
  refine x_getR rfl sh69 rfl ?_
  refine x_getI rfl sh19 rfl ?_
  exact x_icmpge rfl h1 (rng_ld _ _ _) kt kf
theorem uX6_listPairs_33 {d : Nat} {Q : Int → yM → Prop} {M : yM} {x1 : Int} {x2 : Int} (h1 : 0 ≤ ((8 * x1) + x2) ∧ ((8 * x1) + x2) < 64) (k : XCi d 60 [.inr (.inr 1)] M (fun v M' => XW kX6_listPairs (d + 1) (some .boolean) (wQi Q) 54 [some (.inr (.inr 69)), some (.inl x1), some (.inl x2)] [.inl v, .inl (ld M 20 ((8 * x1) + x2))] M')) : XW kX6_listPairs (d + 1) (some .boolean) (wQi Q) 33 [some (.inr (.inr 69)), some (.inl x1), some (.inl x2)] [] M := by
  refine x_aload_n rfl rfl ?_
  refine x_getR rfl sh69 rfl ?_
  refine x_getR rfl sh19 rfl ?_
  refine x_bipush 8 rfl (by decide) ?_
  refine x_iload_n rfl rfl ?_
  refine x_imul rfl ?_
  refine x_iload_n rfl rfl ?_
  refine x_iadd rfl ?_
  refine x_iaload rfl ⟨sh20, Nat.le_of_ble_eq_true rfl⟩ h1 ?_
  refine x_aload_n rfl rfl ?_
  refine x_getR rfl sh69 rfl ?_
  exact x_calli (args := [.inr (.inr 1)]) rfl rfl rfl k
theorem uX6_listPairs_54 {d : Nat} {Q : Int → yM → Prop} {M : yM} {x1 : Int} {x2 : Int} {s0 : Int} {s1 : Int} (h1 : -2147483648 ≤ s1 ∧ s1 < 2147483648) (h2 : -2147483648 ≤ s0 ∧ s0 < 2147483648) (kt : s1 = s0 → XW kX6_listPairs d (some .boolean) (wQi Q) 93 [some (.inr (.inr 69)), some (.inl x1), some (.inl x2)] [] M) (kf : s1 ≠ s0 → XW kX6_listPairs d (some .boolean) (wQi Q) 57 [some (.inr (.inr 69)), some (.inl x1), some (.inl x2)] [] M) : XW kX6_listPairs d (some .boolean) (wQi Q) 54 [some (.inr (.inr 69)), some (.inl x1), some (.inl x2)] [.inl s0, .inl s1] M := by
  exact x_icmpeq rfl h1 h2 kt kf
theorem uX6_listPairs_57 {d : Nat} {Q : Int → yM → Prop} {M : yM} {x1 : Int} {x2 : Int} (kt : (ld M 69 6) < 10 → XW kX6_listPairs d (some .boolean) (wQi Q) 68 [some (.inr (.inr 69)), some (.inl x1), some (.inl x2)] [] M) (kf : (ld M 69 6) ≥ 10 → XW kX6_listPairs d (some .boolean) (wQi Q) 66 [some (.inr (.inr 69)), some (.inl x1), some (.inl x2)] [] M) : XW kX6_listPairs d (some .boolean) (wQi Q) 57 [some (.inr (.inr 69)), some (.inl x1), some (.inl x2)] [] M := by
  refine x_aload_n rfl rfl ?_
  refine x_getI rfl sh69 rfl ?_
  refine x_bipush 10 rfl (by decide) ?_
  exact x_icmplt rfl (rng_ld _ _ _) (by decide) kt kf
theorem uX6_listPairs_66 {d : Nat} {Q : Int → yM → Prop} {M : yM} {x1 : Int} {x2 : Int} (k : Q 0 M) : XW kX6_listPairs d (some .boolean) (wQi Q) 66 [some (.inr (.inr 69)), some (.inl x1), some (.inl x2)] [] M := by
  refine x_iconst 0 rfl (by decide) ?_
  exact x_zreturn rfl (by decide) k
theorem uX6_listPairs_68 {d : Nat} {Q : Int → yM → Prop} {M : yM} {x1 : Int} {x2 : Int} (h1 : 0 ≤ (ld M 69 6) ∧ (ld M 69 6) < 10) (k : ∀ M', M' = (put M 70 (ld M 69 6) ((8 * x1) + x2)) → XW kX6_listPairs d (some .boolean) (wQi Q) 83 [some (.inr (.inr 69)), some (.inl x1), some (.inl x2)] [] M') : XW kX6_listPairs d (some .boolean) (wQi Q) 68 [some (.inr (.inr 69)), some (.inl x1), some (.inl x2)] [] M := by
  refine x_aload_n rfl rfl ?_
  refine x_getR rfl sh69 rfl ?_
  refine x_aload_n rfl rfl ?_
  refine x_getI rfl sh69 rfl ?_
  refine x_bipush 8 rfl (by decide) ?_
  refine x_iload_n rfl rfl ?_
  refine x_imul rfl ?_
  refine x_iload_n rfl rfl ?_
  refine x_iadd rfl ?_
  refine x_iastore rfl ⟨sh70, Nat.le_of_ble_eq_true rfl⟩ h1  ?_
  exact k _ rfl
theorem uX6_listPairs_83 {d : Nat} {Q : Int → yM → Prop} {M : yM} {x1 : Int} {x2 : Int} (k : ∀ M', M' = (put M 69 6 ((ld M 69 6) + 1)) → XW kX6_listPairs d (some .boolean) (wQi Q) 93 [some (.inr (.inr 69)), some (.inl x1), some (.inl x2)] [] M') : XW kX6_listPairs d (some .boolean) (wQi Q) 83 [some (.inr (.inr 69)), some (.inl x1), some (.inl x2)] [] M := by
  refine x_aload_n rfl rfl ?_
  refine x_dupa rfl ?_
  refine x_getI rfl sh69 rfl ?_
  refine x_iconst 1 rfl (by decide) ?_
  refine x_iadd rfl ?_
  refine x_putI rfl rfl sh69 rfl ?_
  exact k _ rfl
theorem uX6_listPairs_93 {d : Nat} {Q : Int → yM → Prop} {M : yM} {x1 : Int} {x2 : Int} (k : XW kX6_listPairs d (some .boolean) (wQi Q) 22 [some (.inr (.inr 69)), some (.inl x1), some (.inl (x2 + 1))] [] M) : XW kX6_listPairs d (some .boolean) (wQi Q) 93 [some (.inr (.inr 69)), some (.inl x1), some (.inl x2)] [] M := by
  refine x_iinc 1 rfl (by decide) rfl rfl ?_
  exact x_goto rfl k
theorem uX6_listPairs_99 {d : Nat} {Q : Int → yM → Prop} {M : yM} {x1 : Int} {x2 : Int} (k : XW kX6_listPairs d (some .boolean) (wQi Q) 7 [some (.inr (.inr 69)), some (.inl (x1 + 1)), some (.inl x2)] [] M) : XW kX6_listPairs d (some .boolean) (wQi Q) 99 [some (.inr (.inr 69)), some (.inl x1), some (.inl x2)] [] M := by
  refine x_iinc 1 rfl (by decide) rfl rfl ?_
  exact x_goto rfl k
theorem uX6_listPairs_105 {d : Nat} {Q : Int → yM → Prop} {M : yM} {x1 : Int} {wx2 : Option yV} (k : Q 1 M) : XW kX6_listPairs d (some .boolean) (wQi Q) 105 [some (.inr (.inr 69)), some (.inl x1), wx2] [] M := by
  refine x_iconst 1 rfl (by decide) ?_
  exact x_zreturn rfl (by decide) k
