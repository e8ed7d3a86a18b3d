/-! A RULE A BLOCK of each method -/
theorem eX0_forget {d : Nat} {Q : yM → Prop} {M : yM}   (h : XW kX0_forget d none (wQv Q) 0 [some (.inr (.inr 73))] [] M) : XCv d 1 [.inr (.inr 73)] M Q :=
  XC.ofW (Mm := (yX0_forget, cX0_forget, 1, none, 1, kX0_forget)) rfl (rcv_ok sh73) rfl rfl h
theorem uX0_forget_0 {d : Nat} {Q : yM → Prop} {M : yM}  (k : XCv d 181 [.inr (.inr 75), .inl (-1)] M (fun M' => XW kX0_forget (d + 1) none (wQv Q) 8 [some (.inr (.inr 73))] [] M')) : XW kX0_forget (d + 1) none (wQv Q) 0 [some (.inr (.inr 73))] [] M := by
  refine x_aload_n rfl rfl ?_
  refine x_getR rfl sh73 rfl ?_
  refine x_iconst (-1) rfl (by decide) ?_
  exact x_callv (args := [.inr (.inr 75), .inl (-1)]) rfl rfl rfl k
theorem uX0_forget_8 {d : Nat} {Q : yM → Prop} {M : yM}  (k : XCv d 181 [.inr (.inr 76), .inl (-1)] M (fun M' => XW kX0_forget (d + 1) none (wQv Q) 16 [some (.inr (.inr 73))] [] M')) : XW kX0_forget (d + 1) none (wQv Q) 8 [some (.inr (.inr 73))] [] M := by
  refine x_aload_n rfl rfl ?_
  refine x_getR rfl sh73 rfl ?_
  refine x_iconst (-1) rfl (by decide) ?_
  exact x_callv (args := [.inr (.inr 76), .inl (-1)]) rfl rfl rfl k
theorem uX0_forget_16 {d : Nat} {Q : yM → Prop} {M : yM}  (k : Q M) : XW kX0_forget d none (wQv Q) 16 [some (.inr (.inr 73))] [] M := by
  exact x_return rfl k
theorem eX0_rowsOf {d : Nat} {Q : Int → yM → Prop} {M : yM} {x1 : Int}  (h : XW kX0_rowsOf d (some .int) (wQi Q) 0 [some (.inr (.inr 73)), some (.inl x1)] [] M) : XCi d 2 [.inr (.inr 73), .inl x1] M Q :=
  XC.ofW (Mm := (yX0_rowsOf, cX0_rowsOf, 2, (some .int), 1, kX0_rowsOf)) rfl (rcv_ok sh73) rfl rfl h
theorem uX0_rowsOf_0 {d : Nat} {Q : Int → yM → Prop} {M : yM} {x1 : Int} (h1 : 0 ≤ x1 ∧ x1 < 6) (kt : (ld M 75 x1) ≠ (-1) → XW kX0_rowsOf d (some .int) (wQi Q) 36 [some (.inr (.inr 73)), some (.inl x1)] [] M) (kf : (ld M 75 x1) = (-1) → XW kX0_rowsOf d (some .int) (wQi Q) 10 [some (.inr (.inr 73)), some (.inl x1)] [] M) : XW kX0_rowsOf d (some .int) (wQi Q) 0 [some (.inr (.inr 73)), some (.inl x1)] [] M := by
  refine x_aload_n rfl rfl ?_
  refine x_getR rfl sh73 rfl ?_
  refine x_iload_n rfl rfl ?_
  refine x_iaload rfl ⟨sh75, Nat.le_of_ble_eq_true rfl⟩ h1 ?_
  refine x_iconst (-1) rfl (by decide) ?_
  exact x_icmpne rfl (rng_ld _ _ _) (by decide) kt kf
theorem uX0_rowsOf_10 {d : Nat} {Q : Int → yM → Prop} {M : yM} {x1 : Int} (k : XCv d 4 [.inr (.inr 73)] M (fun M' => XW kX0_rowsOf (d + 1) (some .int) (wQi Q) 14 [some (.inr (.inr 73)), some (.inl x1)] [] M')) : XW kX0_rowsOf (d + 1) (some .int) (wQi Q) 10 [some (.inr (.inr 73)), some (.inl x1)] [] M := by
  refine x_aload_n rfl rfl ?_
  exact x_callv (args := [.inr (.inr 73)]) rfl rfl rfl k
theorem uX0_rowsOf_14 {d : Nat} {Q : Int → yM → Prop} {M : yM} {x1 : Int} (k : XCi d 46 [.inr (.inr 22), .inr (.inr 74), .inl x1, .inl 20001, .inl 0] M (fun v M' => XW kX0_rowsOf (d + 1) (some .int) (wQi Q) 35 [some (.inr (.inr 73)), some (.inl x1)] [.inl v, .inl x1, .inr (.inr 75)] M')) : XW kX0_rowsOf (d + 1) (some .int) (wQi Q) 14 [some (.inr (.inr 73)), some (.inl x1)] [] M := by
  refine x_aload_n rfl rfl ?_
  refine x_getR rfl sh73 rfl ?_
  refine x_iload_n rfl rfl ?_
  refine x_aload_n rfl rfl ?_
  refine x_getR rfl sh73 rfl ?_
  refine x_aload_n rfl rfl ?_
  refine x_getR rfl sh73 rfl ?_
  refine x_iload_n rfl rfl ?_
  refine x_sipush 20001 rfl (by decide) ?_
  refine x_iconst 0 rfl (by decide) ?_
  exact x_calli (args := [.inr (.inr 22), .inr (.inr 74), .inl x1, .inl 20001, .inl 0]) rfl rfl rfl k
theorem uX0_rowsOf_35 {d : Nat} {Q : Int → yM → Prop} {M : yM} {x1 : Int} {s0 : Int} {s1 : Int} (h1 : 0 ≤ s1 ∧ s1 < 6) (k : ∀ M', M' = (put M 75 s1 s0) → XW kX0_rowsOf d (some .int) (wQi Q) 36 [some (.inr (.inr 73)), some (.inl x1)] [] M') : XW kX0_rowsOf d (some .int) (wQi Q) 35 [some (.inr (.inr 73)), some (.inl x1)] [.inl s0, .inl s1, .inr (.inr 75)] M := by
  refine x_iastore rfl ⟨sh75, Nat.le_of_ble_eq_true rfl⟩ h1  ?_
  exact k _ rfl
theorem uX0_rowsOf_36 {d : Nat} {Q : Int → yM → Prop} {M : yM} {x1 : Int} (h1 : 0 ≤ x1 ∧ x1 < 6) (k : Q (ld M 75 x1) M) : XW kX0_rowsOf d (some .int) (wQi Q) 36 [some (.inr (.inr 73)), some (.inl x1)] [] M := by
  refine x_aload_n rfl rfl ?_
  refine x_getR rfl sh73 rfl ?_
  refine x_iload_n rfl rfl ?_
  refine x_iaload rfl ⟨sh75, Nat.le_of_ble_eq_true rfl⟩ h1 ?_
  exact x_ireturn rfl k
theorem eX0_wholesOf {d : Nat} {Q : Int → yM → Prop} {M : yM} {x1 : Int}  (h : XW kX0_wholesOf d (some .int) (wQi Q) 0 [some (.inr (.inr 73)), some (.inl x1)] [] M) : XCi d 3 [.inr (.inr 73), .inl x1] M Q :=
  XC.ofW (Mm := (yX0_wholesOf, cX0_wholesOf, 2, (some .int), 1, kX0_wholesOf)) rfl (rcv_ok sh73) rfl rfl h
theorem uX0_wholesOf_0 {d : Nat} {Q : Int → yM → Prop} {M : yM} {x1 : Int} (h1 : 0 ≤ x1 ∧ x1 < 6) (kt : (ld M 76 x1) ≠ (-1) → XW kX0_wholesOf d (some .int) (wQi Q) 44 [some (.inr (.inr 73)), some (.inl x1)] [] M) (kf : (ld M 76 x1) = (-1) → XW kX0_wholesOf d (some .int) (wQi Q) 10 [some (.inr (.inr 73)), some (.inl x1)] [] M) : XW kX0_wholesOf d (some .int) (wQi Q) 0 [some (.inr (.inr 73)), some (.inl x1)] [] M := by
  refine x_aload_n rfl rfl ?_
  refine x_getR rfl sh73 rfl ?_
  refine x_iload_n rfl rfl ?_
  refine x_iaload rfl ⟨sh76, Nat.le_of_ble_eq_true rfl⟩ h1 ?_
  refine x_iconst (-1) rfl (by decide) ?_
  exact x_icmpne rfl (rng_ld _ _ _) (by decide) kt kf
theorem uX0_wholesOf_10 {d : Nat} {Q : Int → yM → Prop} {M : yM} {x1 : Int} (k : XCv d 4 [.inr (.inr 73)] M (fun M' => XW kX0_wholesOf (d + 1) (some .int) (wQi Q) 14 [some (.inr (.inr 73)), some (.inl x1)] [] M')) : XW kX0_wholesOf (d + 1) (some .int) (wQi Q) 10 [some (.inr (.inr 73)), some (.inl x1)] [] M := by
  refine x_aload_n rfl rfl ?_
  exact x_callv (args := [.inr (.inr 73)]) rfl rfl rfl k
theorem uX0_wholesOf_14 {d : Nat} {Q : Int → yM → Prop} {M : yM} {x1 : Int} (k : XCi d 46 [.inr (.inr 22), .inr (.inr 74), .inl x1, .inl 20001, .inl 1] M (fun v M' => XW kX0_wholesOf (d + 1) (some .int) (wQi Q) 30 [some (.inr (.inr 73)), some (.inl x1)] [.inl v] M')) : XW kX0_wholesOf (d + 1) (some .int) (wQi Q) 14 [some (.inr (.inr 73)), some (.inl x1)] [] M := by
  refine x_aload_n rfl rfl ?_
  refine x_getR rfl sh73 rfl ?_
  refine x_aload_n rfl rfl ?_
  refine x_getR rfl sh73 rfl ?_
  refine x_iload_n rfl rfl ?_
  refine x_sipush 20001 rfl (by decide) ?_
  refine x_iconst 1 rfl (by decide) ?_
  exact x_calli (args := [.inr (.inr 22), .inr (.inr 74), .inl x1, .inl 20001, .inl 1]) rfl rfl rfl k
theorem uX0_wholesOf_30 {d : Nat} {Q : Int → yM → Prop} {M : yM} {x1 : Int} {s0 : Int} (h1 : 0 ≤ x1 ∧ x1 < 6) (k : ∀ M', M' = (put M 76 x1 (ld M 22 8)) → XW kX0_wholesOf d (some .int) (wQi Q) 44 [some (.inr (.inr 73)), some (.inl x1)] [] M') : XW kX0_wholesOf d (some .int) (wQi Q) 30 [some (.inr (.inr 73)), some (.inl x1)] [.inl s0] M := by
  refine x_popi rfl ?_
  refine x_aload_n rfl rfl ?_
  refine x_getR rfl sh73 rfl ?_
  refine x_iload_n rfl rfl ?_
  refine x_aload_n rfl rfl ?_
  refine x_getR rfl sh73 rfl ?_
  refine x_getI rfl sh22 rfl ?_
  refine x_iastore rfl ⟨sh76, Nat.le_of_ble_eq_true rfl⟩ h1  ?_
  exact k _ rfl
theorem uX0_wholesOf_44 {d : Nat} {Q : Int → yM → Prop} {M : yM} {x1 : Int} (h1 : 0 ≤ x1 ∧ x1 < 6) (k : Q (ld M 76 x1) M) : XW kX0_wholesOf d (some .int) (wQi Q) 44 [some (.inr (.inr 73)), some (.inl x1)] [] M := by
  refine x_aload_n rfl rfl ?_
  refine x_getR rfl sh73 rfl ?_
  refine x_iload_n rfl rfl ?_
  refine x_iaload rfl ⟨sh76, Nat.le_of_ble_eq_true rfl⟩ h1 ?_
  exact x_ireturn rfl k
theorem eX0_restart {d : Nat} {Q : yM → Prop} {M : yM}   (h : XW kX0_restart d none (wQv Q) 0 [some (.inr (.inr 73)), none, none] [] M) : XCv d 4 [.inr (.inr 73)] M Q :=
  XC.ofW (Mm := (yX0_restart, cX0_restart, 3, none, 1, kX0_restart)) rfl (rcv_ok sh73) rfl rfl h
theorem uX0_restart_0 {d : Nat} {Q : yM → Prop} {M : yM}  (k : XCi d 60 [.inr (.inr 1)] M (fun v M' => XW kX0_restart (d + 1) none (wQv Q) 7 [some (.inr (.inr 73)), none, none] [.inl v] M')) : XW kX0_restart (d + 1) none (wQv Q) 0 [some (.inr (.inr 73)), none, none] [] M := by
  refine x_aload_n rfl rfl ?_
  refine x_getR rfl sh73 rfl ?_
  exact x_calli (args := [.inr (.inr 1)]) rfl rfl rfl k
theorem uX0_restart_7 {d : Nat} {Q : yM → Prop} {M : yM} {s0 : Int} (k : XW kX0_restart d none (wQv Q) 13 [some (.inr (.inr 73)), some (.inl (yand s0 (-2))), some (.inl 0)] [] M) : XW kX0_restart d none (wQv Q) 7 [some (.inr (.inr 73)), none, none] [.inl s0] M := by
  refine x_bipush (-2) rfl (by decide) ?_
  refine x_iand rfl ?_
  refine x_istore_n rfl (Nat.le_of_ble_eq_true rfl) rfl ?_
  refine x_iconst 0 rfl (by decide) ?_
  refine x_istore_n rfl (Nat.le_of_ble_eq_true rfl) rfl ?_
  exact k
theorem uX0_restart_13 {d : Nat} {Q : yM → Prop} {M : yM} {x1 : Int} {x2 : Int} (h1 : -2147483648 ≤ x2 ∧ x2 < 2147483648) (kt : x2 ≥ 64 → XW kX0_restart d none (wQv Q) 46 [some (.inr (.inr 73)), some (.inl x1), some (.inl x2)] [] M) (kf : x2 < 64 → XW kX0_restart d none (wQv Q) 19 [some (.inr (.inr 73)), some (.inl x1), some (.inl x2)] [] M) : XW kX0_restart d none (wQv Q) 13 [some (.inr (.inr 73)), some (.inl x1), some (.inl x2)] [] M := by
  refine x_iload_n rfl rfl ?_
  refine x_bipush 64 rfl (by decide) ?_
  exact x_icmpge rfl h1 (by decide) kt kf
theorem uX0_restart_19 {d : Nat} {Q : yM → Prop} {M : yM} {x1 : Int} {x2 : Int} (kt : (yshr x2 3) ≠ (yand x2 7) → XW kX0_restart d none (wQv Q) 38 [some (.inr (.inr 73)), some (.inl x1), some (.inl x2)] [.inl x2, .inr (.inr 74)] M) (kf : (yshr x2 3) = (yand x2 7) → XW kX0_restart d none (wQv Q) 34 [some (.inr (.inr 73)), some (.inl x1), some (.inl x2)] [.inl x2, .inr (.inr 74)] M) : XW kX0_restart d none (wQv Q) 19 [some (.inr (.inr 73)), some (.inl x1), some (.inl x2)] [] M := by
  refine x_aload_n rfl rfl ?_
  refine x_getR rfl sh73 rfl ?_
  refine x_iload_n rfl rfl ?_
  refine x_iload_n rfl rfl ?_
  refine x_iconst 3 rfl (by decide) ?_
  refine x_ishr rfl ?_
  refine x_iload_n rfl rfl ?_
  refine x_bipush 7 rfl (by decide) ?_
  refine x_iand rfl ?_
  exact x_icmpne rfl (rng_yshr _ _) (rng_yand _ _) kt kf
theorem uX0_restart_34 {d : Nat} {Q : yM → Prop} {M : yM} {x1 : Int} {x2 : Int} {s0 : Int} (k : XW kX0_restart d none (wQv Q) 39 [some (.inr (.inr 73)), some (.inl x1), some (.inl x2)] [.inl 1, .inl s0, .inr (.inr 74)] M) : XW kX0_restart d none (wQv Q) 34 [some (.inr (.inr 73)), some (.inl x1), some (.inl x2)] [.inl s0, .inr (.inr 74)] M := by
  refine x_iconst 1 rfl (by decide) ?_
  exact x_goto rfl k
theorem uX0_restart_38 {d : Nat} {Q : yM → Prop} {M : yM} {x1 : Int} {x2 : Int} {s0 : Int} (k : XW kX0_restart d none (wQv Q) 39 [some (.inr (.inr 73)), some (.inl x1), some (.inl x2)] [.inl x1, .inl s0, .inr (.inr 74)] M) : XW kX0_restart d none (wQv Q) 38 [some (.inr (.inr 73)), some (.inl x1), some (.inl x2)] [.inl s0, .inr (.inr 74)] M := by
  refine x_iload_n rfl rfl ?_
  exact k
theorem uX0_restart_39 {d : Nat} {Q : yM → Prop} {M : yM} {x1 : Int} {x2 : Int} {s0 : Int} {s1 : Int} (h1 : 0 ≤ s1 ∧ s1 < 64) (k : ∀ M', M' = (put M 74 s1 s0) → XW kX0_restart d none (wQv Q) 40 [some (.inr (.inr 73)), some (.inl x1), some (.inl x2)] [] M') : XW kX0_restart d none (wQv Q) 39 [some (.inr (.inr 73)), some (.inl x1), some (.inl x2)] [.inl s0, .inl s1, .inr (.inr 74)] M := by
  refine x_iastore rfl ⟨sh74, Nat.le_of_ble_eq_true rfl⟩ h1  ?_
  exact k _ rfl
theorem uX0_restart_40 {d : Nat} {Q : yM → Prop} {M : yM} {x1 : Int} {x2 : Int} (k : XW kX0_restart d none (wQv Q) 13 [some (.inr (.inr 73)), some (.inl x1), some (.inl (x2 + 1))] [] M) : XW kX0_restart d none (wQv Q) 40 [some (.inr (.inr 73)), some (.inl x1), some (.inl x2)] [] M := by
  refine x_iinc 1 rfl (by decide) rfl rfl ?_
  exact x_goto rfl k
theorem uX0_restart_46 {d : Nat} {Q : yM → Prop} {M : yM} {x1 : Int} {x2 : Int} (k : Q M) : XW kX0_restart d none (wQv Q) 46 [some (.inr (.inr 73)), some (.inl x1), some (.inl x2)] [] M := by
  exact x_return rfl k
theorem eX1_add {d : Nat} {Q : yM → Prop} {M : yM} {x1 : Int}  (h : XW kX1_add d none (wQv Q) 0 [some (.inr (.inr 77)), some (.inl x1)] [] M) : XCv d 6 [.inr (.inr 77), .inl x1] M Q :=
  XC.ofW (Mm := (yX1_add, cX1_add, 2, none, 2, kX1_add)) rfl (rcv_ok sh77) rfl rfl h
theorem uX1_add_0 {d : Nat} {Q : yM → Prop} {M : yM} {x1 : Int} (kt : (ld M 77 1) ≥ 60 → XW kX1_add d none (wQv Q) 29 [some (.inr (.inr 77)), some (.inl x1)] [] M) (kf : (ld M 77 1) < 60 → XW kX1_add d none (wQv Q) 9 [some (.inr (.inr 77)), some (.inl x1)] [] M) : XW kX1_add d none (wQv Q) 0 [some (.inr (.inr 77)), some (.inl x1)] [] M := by
  refine x_aload_n rfl rfl ?_
  refine x_getI rfl sh77 rfl ?_
  refine x_bipush 60 rfl (by decide) ?_
  exact x_icmpge rfl (rng_ld _ _ _) (by decide) kt kf
theorem uX1_add_9 {d : Nat} {Q : yM → Prop} {M : yM} {x1 : Int} (h1 : 0 ≤ (ld M 77 1) ∧ (ld M 77 1) < 60) (k : ∀ M', M' = (put M 78 (ld M 77 1) x1) → XW kX1_add d none (wQv Q) 19 [some (.inr (.inr 77)), some (.inl x1)] [] M') : XW kX1_add d none (wQv Q) 9 [some (.inr (.inr 77)), some (.inl x1)] [] M := by
  refine x_aload_n rfl rfl ?_
  refine x_getR rfl sh77 rfl ?_
  refine x_aload_n rfl rfl ?_
  refine x_getI rfl sh77 rfl ?_
  refine x_iload_n rfl rfl ?_
  refine x_iastore rfl ⟨sh78, Nat.le_of_ble_eq_true rfl⟩ h1  ?_
  exact k _ rfl
theorem uX1_add_19 {d : Nat} {Q : yM → Prop} {M : yM} {x1 : Int} (k : ∀ M', M' = (put M 77 1 ((ld M 77 1) + 1)) → XW kX1_add d none (wQv Q) 29 [some (.inr (.inr 77)), some (.inl x1)] [] M') : XW kX1_add d none (wQv Q) 19 [some (.inr (.inr 77)), some (.inl x1)] [] M := by
  refine x_aload_n rfl rfl ?_
  refine x_dupa rfl ?_
  refine x_getI rfl sh77 rfl ?_
  refine x_iconst 1 rfl (by decide) ?_
  refine x_iadd rfl ?_
  refine x_putI rfl rfl sh77 rfl ?_
  exact k _ rfl
theorem uX1_add_29 {d : Nat} {Q : yM → Prop} {M : yM} {x1 : Int} (k : Q M) : XW kX1_add d none (wQv Q) 29 [some (.inr (.inr 77)), some (.inl x1)] [] M := by
  exact x_return rfl k
theorem eX1_firstFault {d : Nat} {Q : Int → yM → Prop} {M : yM} {x1 : Int}  (h : XW kX1_firstFault d (some .int) (wQi Q) 0 [some (.inr (.inr 77)), some (.inl x1), none, none, none] [] M) : XCi d 7 [.inr (.inr 77), .inl x1] M Q :=
  XC.ofW (Mm := (yX1_firstFault, cX1_firstFault, 5, (some .int), 2, kX1_firstFault)) rfl (rcv_ok sh77) rfl rfl h
theorem uX1_firstFault_0 {d : Nat} {Q : Int → yM → Prop} {M : yM} {x1 : Int} (k : ∀ M', M' = (put M 77 3 0) → XW kX1_firstFault d (some .int) (wQi Q) 5 [some (.inr (.inr 77)), some (.inl x1), none, none, none] [] M') : XW kX1_firstFault d (some .int) (wQi Q) 0 [some (.inr (.inr 77)), some (.inl x1), none, none, none] [] M := by
  refine x_aload_n rfl rfl ?_
  refine x_iconst 0 rfl (by decide) ?_
  refine x_putI rfl rfl sh77 rfl ?_
  exact k _ rfl
theorem uX1_firstFault_5 {d : Nat} {Q : Int → yM → Prop} {M : yM} {x1 : Int} (k : ∀ M', M' = (put M 77 4 0) → XW kX1_firstFault d (some .int) (wQi Q) 10 [some (.inr (.inr 77)), some (.inl x1), none, none, none] [] M') : XW kX1_firstFault d (some .int) (wQi Q) 5 [some (.inr (.inr 77)), some (.inl x1), none, none, none] [] M := by
  refine x_aload_n rfl rfl ?_
  refine x_iconst 0 rfl (by decide) ?_
  refine x_putI rfl rfl sh77 rfl ?_
  exact k _ rfl
theorem uX1_firstFault_10 {d : Nat} {Q : Int → yM → Prop} {M : yM} {x1 : Int} (k : ∀ M', M' = (put M 77 6 0) → XW kX1_firstFault d (some .int) (wQi Q) 15 [some (.inr (.inr 77)), some (.inl x1), none, none, none] [] M') : XW kX1_firstFault d (some .int) (wQi Q) 10 [some (.inr (.inr 77)), some (.inl x1), none, none, none] [] M := by
  refine x_aload_n rfl rfl ?_
  refine x_iconst 0 rfl (by decide) ?_
  refine x_putI rfl rfl sh77 rfl ?_
  exact k _ rfl
theorem uX1_firstFault_15 {d : Nat} {Q : Int → yM → Prop} {M : yM} {x1 : Int} (k : ∀ M', M' = (put M 77 7 0) → XW kX1_firstFault d (some .int) (wQi Q) 20 [some (.inr (.inr 77)), some (.inl x1), none, none, none] [] M') : XW kX1_firstFault d (some .int) (wQi Q) 15 [some (.inr (.inr 77)), some (.inl x1), none, none, none] [] M := by
  refine x_aload_n rfl rfl ?_
  refine x_iconst 0 rfl (by decide) ?_
  refine x_putI rfl rfl sh77 rfl ?_
  exact k _ rfl
theorem uX1_firstFault_20 {d : Nat} {Q : Int → yM → Prop} {M : yM} {x1 : Int} (k : ∀ M', M' = (put M 77 8 0) → XW kX1_firstFault d (some .int) (wQi Q) 25 [some (.inr (.inr 77)), some (.inl x1), none, none, none] [] M') : XW kX1_firstFault d (some .int) (wQi Q) 20 [some (.inr (.inr 77)), some (.inl x1), none, none, none] [] M := by
  refine x_aload_n rfl rfl ?_
  refine x_iconst 0 rfl (by decide) ?_
  refine x_putI rfl rfl sh77 rfl ?_
  exact k _ rfl
theorem uX1_firstFault_25 {d : Nat} {Q : Int → yM → Prop} {M : yM} {x1 : Int} (k : ∀ M', M' = (put M 77 9 0) → XW kX1_firstFault d (some .int) (wQi Q) 30 [some (.inr (.inr 77)), some (.inl x1), none, none, none] [] M') : XW kX1_firstFault d (some .int) (wQi Q) 25 [some (.inr (.inr 77)), some (.inl x1), none, none, none] [] M := by
  refine x_aload_n rfl rfl ?_
  refine x_iconst 0 rfl (by decide) ?_
  refine x_putZ rfl rfl sh77 rfl (by decide) ?_
  exact k _ rfl
theorem uX1_firstFault_30 {d : Nat} {Q : Int → yM → Prop} {M : yM} {x1 : Int} (k : XW kX1_firstFault d (some .int) (wQi Q) 32 [some (.inr (.inr 77)), some (.inl x1), some (.inl 0), none, none] [] M) : XW kX1_firstFault d (some .int) (wQi Q) 30 [some (.inr (.inr 77)), some (.inl x1), none, none, none] [] M := by
  refine x_iconst 0 rfl (by decide) ?_
  refine x_istore_n rfl (Nat.le_of_ble_eq_true rfl) rfl ?_
  exact k
theorem uX1_firstFault_32 {d : Nat} {Q : Int → yM → Prop} {M : yM} {x1 : Int} {x2 : Int} {wx3 : Option yV} {wx4 : Option yV} (h1 : -2147483648 ≤ x2 ∧ x2 < 2147483648) (kt : x2 ≥ (ld M 77 1) → XW kX1_firstFault d (some .int) (wQi Q) 89 [some (.inr (.inr 77)), some (.inl x1), some (.inl x2), wx3, wx4] [] M) (kf : x2 < (ld M 77 1) → XW kX1_firstFault d (some .int) (wQi Q) 40 [some (.inr (.inr 77)), some (.inl x1), some (.inl x2), wx3, wx4] [] M) : XW kX1_firstFault d (some .int) (wQi Q) 32 [some (.inr (.inr 77)), some (.inl x1), some (.inl x2), wx3, wx4] [] M := by
  refine x_iload_n rfl rfl ?_
  refine x_aload_n rfl rfl ?_
  refine x_getI rfl sh77 rfl ?_
  exact x_icmpge rfl h1 (rng_ld _ _ _) kt kf
theorem uX1_firstFault_40 {d : Nat} {Q : Int → yM → Prop} {M : yM} {x1 : Int} {x2 : Int} {wx3 : Option yV} {wx4 : Option yV} (h1 : -2147483648 ≤ x2 ∧ x2 < 2147483648) (kt : x2 ≥ 60 → XW kX1_firstFault d (some .int) (wQi Q) 89 [some (.inr (.inr 77)), some (.inl x1), some (.inl x2), wx3, wx4] [] M) (kf : x2 < 60 → XW kX1_firstFault d (some .int) (wQi Q) 46 [some (.inr (.inr 77)), some (.inl x1), some (.inl x2), wx3, wx4] [] M) : XW kX1_firstFault d (some .int) (wQi Q) 40 [some (.inr (.inr 77)), some (.inl x1), some (.inl x2), wx3, wx4] [] M := by
  refine x_iload_n rfl rfl ?_
  refine x_bipush 60 rfl (by decide) ?_
  exact x_icmpge rfl h1 (by decide) kt kf
theorem uX1_firstFault_46 {d : Nat} {Q : Int → yM → Prop} {M : yM} {x1 : Int} {x2 : Int} {wx3 : Option yV} {wx4 : Option yV} (h1 : 0 ≤ x2 ∧ x2 < 60) (kt : (ld M 77 9) = 0 → XW kX1_firstFault d (some .int) (wQi Q) 68 [some (.inr (.inr 77)), some (.inl x1), some (.inl x2), some (.inl (ld M 78 x2)), wx4] [] M) (kf : (ld M 77 9) ≠ 0 → XW kX1_firstFault d (some .int) (wQi Q) 60 [some (.inr (.inr 77)), some (.inl x1), some (.inl x2), some (.inl (ld M 78 x2)), wx4] [] M) : XW kX1_firstFault d (some .int) (wQi Q) 46 [some (.inr (.inr 77)), some (.inl x1), some (.inl x2), wx3, wx4] [] M := by
  refine x_aload_n rfl rfl ?_
  refine x_getR rfl sh77 rfl ?_
  refine x_iload_n rfl rfl ?_
  refine x_iaload rfl ⟨sh78, Nat.le_of_ble_eq_true rfl⟩ h1 ?_
  refine x_istore_n rfl (Nat.le_of_ble_eq_true rfl) rfl ?_
  refine x_aload_n rfl rfl ?_
  refine x_getI rfl sh77 rfl ?_
  exact x_ifeq rfl (rng_ld _ _ _) kt kf
theorem uX1_firstFault_60 {d : Nat} {Q : Int → yM → Prop} {M : yM} {x1 : Int} {x2 : Int} {x3 : Int} {wx4 : Option yV} (k : XCi d 9 [.inr (.inr 77), .inl x3] M (fun v M' => XW kX1_firstFault (d + 1) (some .int) (wQi Q) 65 [some (.inr (.inr 77)), some (.inl x1), some (.inl x2), some (.inl x3), wx4] [.inl v] M')) : XW kX1_firstFault (d + 1) (some .int) (wQi Q) 60 [some (.inr (.inr 77)), some (.inl x1), some (.inl x2), some (.inl x3), wx4] [] M := by
  refine x_aload_n rfl rfl ?_
  refine x_iload_n rfl rfl ?_
  exact x_calli (args := [.inr (.inr 77), .inl x3]) rfl rfl rfl k
theorem uX1_firstFault_65 {d : Nat} {Q : Int → yM → Prop} {M : yM} {x1 : Int} {x2 : Int} {x3 : Int} {wx4 : Option yV} {s0 : Int} (k : XW kX1_firstFault d (some .int) (wQi Q) 74 [some (.inr (.inr 77)), some (.inl x1), some (.inl x2), some (.inl x3), wx4] [.inl s0] M) : XW kX1_firstFault d (some .int) (wQi Q) 65 [some (.inr (.inr 77)), some (.inl x1), some (.inl x2), some (.inl x3), wx4] [.inl s0] M := by
  exact x_goto rfl k
theorem uX1_firstFault_68 {d : Nat} {Q : Int → yM → Prop} {M : yM} {x1 : Int} {x2 : Int} {x3 : Int} {wx4 : Option yV} (k : XCi d 8 [.inr (.inr 77), .inl x3, .inl x1] M (fun v M' => XW kX1_firstFault (d + 1) (some .int) (wQi Q) 74 [some (.inr (.inr 77)), some (.inl x1), some (.inl x2), some (.inl x3), wx4] [.inl v] M')) : XW kX1_firstFault (d + 1) (some .int) (wQi Q) 68 [some (.inr (.inr 77)), some (.inl x1), some (.inl x2), some (.inl x3), wx4] [] M := by
  refine x_aload_n rfl rfl ?_
  refine x_iload_n rfl rfl ?_
  refine x_iload_n rfl rfl ?_
  exact x_calli (args := [.inr (.inr 77), .inl x3, .inl x1]) rfl rfl rfl k
theorem uX1_firstFault_74 {d : Nat} {Q : Int → yM → Prop} {M : yM} {x1 : Int} {x2 : Int} {x3 : Int} {wx4 : Option yV} {s0 : Int} (h1 : -2147483648 ≤ s0 ∧ s0 < 2147483648) (kt : s0 ≠ 0 → XW kX1_firstFault d (some .int) (wQi Q) 83 [some (.inr (.inr 77)), some (.inl x1), some (.inl x2), some (.inl x3), some (.inl s0)] [] M) (kf : s0 = 0 → XW kX1_firstFault d (some .int) (wQi Q) 81 [some (.inr (.inr 77)), some (.inl x1), some (.inl x2), some (.inl x3), some (.inl s0)] [] M) : XW kX1_firstFault d (some .int) (wQi Q) 74 [some (.inr (.inr 77)), some (.inl x1), some (.inl x2), some (.inl x3), wx4] [.inl s0] M := by
  refine x_istore rfl (Nat.le_of_ble_eq_true rfl) rfl ?_
  refine x_iload rfl rfl ?_
  exact x_ifne rfl h1 kt kf
theorem uX1_firstFault_81 {d : Nat} {Q : Int → yM → Prop} {M : yM} {x1 : Int} {x2 : Int} {x3 : Int} {x4 : Int} (k : Q x2 M) : XW kX1_firstFault d (some .int) (wQi Q) 81 [some (.inr (.inr 77)), some (.inl x1), some (.inl x2), some (.inl x3), some (.inl x4)] [] M := by
  refine x_iload_n rfl rfl ?_
  exact x_ireturn rfl k
theorem uX1_firstFault_83 {d : Nat} {Q : Int → yM → Prop} {M : yM} {x1 : Int} {x2 : Int} {x3 : Int} {x4 : Int} (k : XW kX1_firstFault d (some .int) (wQi Q) 32 [some (.inr (.inr 77)), some (.inl x1), some (.inl (x2 + 1)), some (.inl x3), some (.inl x4)] [] M) : XW kX1_firstFault d (some .int) (wQi Q) 83 [some (.inr (.inr 77)), some (.inl x1), some (.inl x2), some (.inl x3), some (.inl x4)] [] M := by
  refine x_iinc 1 rfl (by decide) rfl rfl ?_
  exact x_goto rfl k
theorem uX1_firstFault_89 {d : Nat} {Q : Int → yM → Prop} {M : yM} {x1 : Int} {x2 : Int} {wx3 : Option yV} {wx4 : Option yV} (kt : (ld M 77 9) = 0 → XW kX1_firstFault d (some .int) (wQi Q) 103 [some (.inr (.inr 77)), some (.inl x1), some (.inl x2), wx3, wx4] [] M) (kf : (ld M 77 9) ≠ 0 → XW kX1_firstFault d (some .int) (wQi Q) 96 [some (.inr (.inr 77)), some (.inl x1), some (.inl x2), wx3, wx4] [] M) : XW kX1_firstFault d (some .int) (wQi Q) 89 [some (.inr (.inr 77)), some (.inl x1), some (.inl x2), wx3, wx4] [] M := by
  refine x_aload_n rfl rfl ?_
  refine x_getI rfl sh77 rfl ?_
  exact x_ifeq rfl (rng_ld _ _ _) kt kf
theorem uX1_firstFault_96 {d : Nat} {Q : Int → yM → Prop} {M : yM} {x1 : Int} {x2 : Int} {wx3 : Option yV} {wx4 : Option yV} (kt : (ld M 77 8) ≤ 0 → XW kX1_firstFault d (some .int) (wQi Q) 108 [some (.inr (.inr 77)), some (.inl x1), some (.inl x2), wx3, wx4] [] M) (kf : (ld M 77 8) > 0 → XW kX1_firstFault d (some .int) (wQi Q) 103 [some (.inr (.inr 77)), some (.inl x1), some (.inl x2), wx3, wx4] [] M) : XW kX1_firstFault d (some .int) (wQi Q) 96 [some (.inr (.inr 77)), some (.inl x1), some (.inl x2), wx3, wx4] [] M := by
  refine x_aload_n rfl rfl ?_
  refine x_getI rfl sh77 rfl ?_
  exact x_ifle rfl (rng_ld _ _ _) kt kf
theorem uX1_firstFault_103 {d : Nat} {Q : Int → yM → Prop} {M : yM} {x1 : Int} {x2 : Int} {wx3 : Option yV} {wx4 : Option yV} (k : Q (ld M 77 1) M) : XW kX1_firstFault d (some .int) (wQi Q) 103 [some (.inr (.inr 77)), some (.inl x1), some (.inl x2), wx3, wx4] [] M := by
  refine x_aload_n rfl rfl ?_
  refine x_getI rfl sh77 rfl ?_
  exact x_ireturn rfl k
theorem uX1_firstFault_108 {d : Nat} {Q : Int → yM → Prop} {M : yM} {x1 : Int} {x2 : Int} {wx3 : Option yV} {wx4 : Option yV} (k : XCv d 11 [.inr (.inr 77), .inl 1] M (fun M' => XW kX1_firstFault (d + 1) (some .int) (wQi Q) 113 [some (.inr (.inr 77)), some (.inl x1), some (.inl x2), wx3, wx4] [] M')) : XW kX1_firstFault (d + 1) (some .int) (wQi Q) 108 [some (.inr (.inr 77)), some (.inl x1), some (.inl x2), wx3, wx4] [] M := by
  refine x_aload_n rfl rfl ?_
  refine x_iconst 1 rfl (by decide) ?_
  exact x_callv (args := [.inr (.inr 77), .inl 1]) rfl rfl rfl k
theorem uX1_firstFault_113 {d : Nat} {Q : Int → yM → Prop} {M : yM} {x1 : Int} {x2 : Int} {wx3 : Option yV} {wx4 : Option yV} (k : Q (-9) M) : XW kX1_firstFault d (some .int) (wQi Q) 113 [some (.inr (.inr 77)), some (.inl x1), some (.inl x2), wx3, wx4] [] M := by
  refine x_bipush (-9) rfl (by decide) ?_
  exact x_ireturn rfl k
theorem eX1_standsAsFactor {d : Nat} {Q : Int → yM → Prop} {M : yM} {x1 : Int} {x2 : Int}  (h : XW kX1_standsAsFactor d (some .boolean) (wQi Q) 0 [some (.inr (.inr 77)), some (.inl x1), some (.inl x2), none, none] [] M) : XCi d 8 [.inr (.inr 77), .inl x1, .inl x2] M Q :=
  XC.ofW (Mm := (yX1_standsAsFactor, cX1_standsAsFactor, 5, (some .boolean), 2, kX1_standsAsFactor)) rfl (rcv_ok sh77) rfl rfl h
theorem uX1_standsAsFactor_0 {d : Nat} {Q : Int → yM → Prop} {M : yM} {x1 : Int} {x2 : Int} (kt : (ld M 77 7) < 40 → XW kX1_standsAsFactor d (some .boolean) (wQi Q) 11 [some (.inr (.inr 77)), some (.inl x1), some (.inl x2), none, none] [] M) (kf : (ld M 77 7) ≥ 40 → XW kX1_standsAsFactor d (some .boolean) (wQi Q) 9 [some (.inr (.inr 77)), some (.inl x1), some (.inl x2), none, none] [] M) : XW kX1_standsAsFactor d (some .boolean) (wQi Q) 0 [some (.inr (.inr 77)), some (.inl x1), some (.inl x2), none, none] [] M := by
  refine x_aload_n rfl rfl ?_
  refine x_getI rfl sh77 rfl ?_
  refine x_bipush 40 rfl (by decide) ?_
  exact x_icmplt rfl (rng_ld _ _ _) (by decide) kt kf
theorem uX1_standsAsFactor_9 {d : Nat} {Q : Int → yM → Prop} {M : yM} {x1 : Int} {x2 : Int} (k : Q 0 M) : XW kX1_standsAsFactor d (some .boolean) (wQi Q) 9 [some (.inr (.inr 77)), some (.inl x1), some (.inl x2), none, none] [] M := by
  refine x_iconst 0 rfl (by decide) ?_
  exact x_zreturn rfl (by decide) k
theorem uX1_standsAsFactor_11 {d : Nat} {Q : Int → yM → Prop} {M : yM} {x1 : Int} {x2 : Int} (k : ∀ M', M' = (put M 77 7 ((ld M 77 7) + 1)) → XW kX1_standsAsFactor d (some .boolean) (wQi Q) 21 [some (.inr (.inr 77)), some (.inl x1), some (.inl x2), none, none] [] M') : XW kX1_standsAsFactor d (some .boolean) (wQi Q) 11 [some (.inr (.inr 77)), some (.inl x1), some (.inl x2), none, none] [] M := by
  refine x_aload_n rfl rfl ?_
  refine x_dupa rfl ?_
  refine x_getI rfl sh77 rfl ?_
  refine x_iconst 1 rfl (by decide) ?_
  refine x_iadd rfl ?_
  refine x_putI rfl rfl sh77 rfl ?_
  exact k _ rfl
theorem uX1_standsAsFactor_21 {d : Nat} {Q : Int → yM → Prop} {M : yM} {x1 : Int} {x2 : Int} (h1 : -2147483648 ≤ x1 ∧ x1 < 2147483648) (kt : x1 = 45 → XW kX1_standsAsFactor d (some .boolean) (wQi Q) 33 [some (.inr (.inr 77)), some (.inl x1), some (.inl x2), none, none] [] M) (kf : x1 ≠ 45 → XW kX1_standsAsFactor d (some .boolean) (wQi Q) 27 [some (.inr (.inr 77)), some (.inl x1), some (.inl x2), none, none] [] M) : XW kX1_standsAsFactor d (some .boolean) (wQi Q) 21 [some (.inr (.inr 77)), some (.inl x1), some (.inl x2), none, none] [] M := by
  refine x_iload_n rfl rfl ?_
  refine x_bipush 45 rfl (by decide) ?_
  exact x_icmpeq rfl h1 (by decide) kt kf
theorem uX1_standsAsFactor_27 {d : Nat} {Q : Int → yM → Prop} {M : yM} {x1 : Int} {x2 : Int} (h1 : -2147483648 ≤ x1 ∧ x1 < 2147483648) (kt : x1 ≠ 126 → XW kX1_standsAsFactor d (some .boolean) (wQi Q) 39 [some (.inr (.inr 77)), some (.inl x1), some (.inl x2), none, none] [] M) (kf : x1 = 126 → XW kX1_standsAsFactor d (some .boolean) (wQi Q) 33 [some (.inr (.inr 77)), some (.inl x1), some (.inl x2), none, none] [] M) : XW kX1_standsAsFactor d (some .boolean) (wQi Q) 27 [some (.inr (.inr 77)), some (.inl x1), some (.inl x2), none, none] [] M := by
  refine x_iload_n rfl rfl ?_
  refine x_bipush 126 rfl (by decide) ?_
  exact x_icmpne rfl h1 (by decide) kt kf
theorem uX1_standsAsFactor_33 {d : Nat} {Q : Int → yM → Prop} {M : yM} {x1 : Int} {x2 : Int} (k : XCi d 10 [.inr (.inr 77), .inl x1] M (fun v M' => XW kX1_standsAsFactor (d + 1) (some .boolean) (wQi Q) 38 [some (.inr (.inr 77)), some (.inl x1), some (.inl x2), none, none] [.inl v] M')) : XW kX1_standsAsFactor (d + 1) (some .boolean) (wQi Q) 33 [some (.inr (.inr 77)), some (.inl x1), some (.inl x2), none, none] [] M := by
  refine x_aload_n rfl rfl ?_
  refine x_iload_n rfl rfl ?_
  exact x_calli (args := [.inr (.inr 77), .inl x1]) rfl rfl rfl k
theorem uX1_standsAsFactor_38 {d : Nat} {Q : Int → yM → Prop} {M : yM} {x1 : Int} {x2 : Int} {s0 : Int} (h1 : s0 = 0 ∨ s0 = 1) (k : Q s0 M) : XW kX1_standsAsFactor d (some .boolean) (wQi Q) 38 [some (.inr (.inr 77)), some (.inl x1), some (.inl x2), none, none] [.inl s0] M := by
  exact x_zreturn rfl h1 k
theorem uX1_standsAsFactor_39 {d : Nat} {Q : Int → yM → Prop} {M : yM} {x1 : Int} {x2 : Int} (h1 : -2147483648 ≤ x1 ∧ x1 < 2147483648) (kt : x1 ≠ 40 → XW kX1_standsAsFactor d (some .boolean) (wQi Q) 78 [some (.inr (.inr 77)), some (.inl x1), some (.inl x2), none, none] [] M) (kf : x1 = 40 → XW kX1_standsAsFactor d (some .boolean) (wQi Q) 45 [some (.inr (.inr 77)), some (.inl x1), some (.inl x2), none, none] [] M) : XW kX1_standsAsFactor d (some .boolean) (wQi Q) 39 [some (.inr (.inr 77)), some (.inl x1), some (.inl x2), none, none] [] M := by
  refine x_iload_n rfl rfl ?_
  refine x_bipush 40 rfl (by decide) ?_
  exact x_icmpne rfl h1 (by decide) kt kf
theorem uX1_standsAsFactor_45 {d : Nat} {Q : Int → yM → Prop} {M : yM} {x1 : Int} {x2 : Int} (k : ∀ M', M' = (put M 77 8 ((ld M 77 8) + 1)) → XW kX1_standsAsFactor d (some .boolean) (wQi Q) 55 [some (.inr (.inr 77)), some (.inl x1), some (.inl x2), none, none] [] M') : XW kX1_standsAsFactor d (some .boolean) (wQi Q) 45 [some (.inr (.inr 77)), some (.inl x1), some (.inl x2), none, none] [] M := by
  refine x_aload_n rfl rfl ?_
  refine x_dupa rfl ?_
  refine x_getI rfl sh77 rfl ?_
  refine x_iconst 1 rfl (by decide) ?_
  refine x_iadd rfl ?_
  refine x_putI rfl rfl sh77 rfl ?_
  exact k _ rfl
theorem uX1_standsAsFactor_55 {d : Nat} {Q : Int → yM → Prop} {M : yM} {x1 : Int} {x2 : Int} (kt : (ld M 77 8) > 10 → XW kX1_standsAsFactor d (some .boolean) (wQi Q) 76 [some (.inr (.inr 77)), some (.inl x1), some (.inl x2), none, none] [] M) (kf : (ld M 77 8) ≤ 10 → XW kX1_standsAsFactor d (some .boolean) (wQi Q) 64 [some (.inr (.inr 77)), some (.inl x1), some (.inl x2), none, none] [] M) : XW kX1_standsAsFactor d (some .boolean) (wQi Q) 55 [some (.inr (.inr 77)), some (.inl x1), some (.inl x2), none, none] [] M := by
  refine x_aload_n rfl rfl ?_
  refine x_getI rfl sh77 rfl ?_
  refine x_bipush 10 rfl (by decide) ?_
  exact x_icmpgt rfl (rng_ld _ _ _) (by decide) kt kf
theorem uX1_standsAsFactor_64 {d : Nat} {Q : Int → yM → Prop} {M : yM} {x1 : Int} {x2 : Int} (k : XCi d 10 [.inr (.inr 77), .inl x1] M (fun v M' => XW kX1_standsAsFactor (d + 1) (some .boolean) (wQi Q) 69 [some (.inr (.inr 77)), some (.inl x1), some (.inl x2), none, none] [.inl v] M')) : XW kX1_standsAsFactor (d + 1) (some .boolean) (wQi Q) 64 [some (.inr (.inr 77)), some (.inl x1), some (.inl x2), none, none] [] M := by
  refine x_aload_n rfl rfl ?_
  refine x_iload_n rfl rfl ?_
  exact x_calli (args := [.inr (.inr 77), .inl x1]) rfl rfl rfl k
theorem uX1_standsAsFactor_69 {d : Nat} {Q : Int → yM → Prop} {M : yM} {x1 : Int} {x2 : Int} {s0 : Int} (h1 : -2147483648 ≤ s0 ∧ s0 < 2147483648) (kt : s0 = 0 → XW kX1_standsAsFactor d (some .boolean) (wQi Q) 76 [some (.inr (.inr 77)), some (.inl x1), some (.inl x2), none, none] [] M) (kf : s0 ≠ 0 → XW kX1_standsAsFactor d (some .boolean) (wQi Q) 72 [some (.inr (.inr 77)), some (.inl x1), some (.inl x2), none, none] [] M) : XW kX1_standsAsFactor d (some .boolean) (wQi Q) 69 [some (.inr (.inr 77)), some (.inl x1), some (.inl x2), none, none] [.inl s0] M := by
  exact x_ifeq rfl h1 kt kf
theorem uX1_standsAsFactor_72 {d : Nat} {Q : Int → yM → Prop} {M : yM} {x1 : Int} {x2 : Int} (k : XW kX1_standsAsFactor d (some .boolean) (wQi Q) 77 [some (.inr (.inr 77)), some (.inl x1), some (.inl x2), none, none] [.inl 1] M) : XW kX1_standsAsFactor d (some .boolean) (wQi Q) 72 [some (.inr (.inr 77)), some (.inl x1), some (.inl x2), none, none] [] M := by
  refine x_iconst 1 rfl (by decide) ?_
  exact x_goto rfl k
theorem uX1_standsAsFactor_76 {d : Nat} {Q : Int → yM → Prop} {M : yM} {x1 : Int} {x2 : Int} (k : XW kX1_standsAsFactor d (some .boolean) (wQi Q) 77 [some (.inr (.inr 77)), some (.inl x1), some (.inl x2), none, none] [.inl 0] M) : XW kX1_standsAsFactor d (some .boolean) (wQi Q) 76 [some (.inr (.inr 77)), some (.inl x1), some (.inl x2), none, none] [] M := by
  refine x_iconst 0 rfl (by decide) ?_
  exact k
theorem uX1_standsAsFactor_77 {d : Nat} {Q : Int → yM → Prop} {M : yM} {x1 : Int} {x2 : Int} {s0 : Int} (h1 : s0 = 0 ∨ s0 = 1) (k : Q s0 M) : XW kX1_standsAsFactor d (some .boolean) (wQi Q) 77 [some (.inr (.inr 77)), some (.inl x1), some (.inl x2), none, none] [.inl s0] M := by
  exact x_zreturn rfl h1 k
theorem uX1_standsAsFactor_78 {d : Nat} {Q : Int → yM → Prop} {M : yM} {x1 : Int} {x2 : Int} (h1 : -2147483648 ≤ x1 ∧ x1 < 2147483648) (kt : x1 < 97 → XW kX1_standsAsFactor d (some .boolean) (wQi Q) 96 [some (.inr (.inr 77)), some (.inl x1), some (.inl x2), none, none] [] M) (kf : x1 ≥ 97 → XW kX1_standsAsFactor d (some .boolean) (wQi Q) 84 [some (.inr (.inr 77)), some (.inl x1), some (.inl x2), none, none] [] M) : XW kX1_standsAsFactor d (some .boolean) (wQi Q) 78 [some (.inr (.inr 77)), some (.inl x1), some (.inl x2), none, none] [] M := by
  refine x_iload_n rfl rfl ?_
  refine x_bipush 97 rfl (by decide) ?_
  exact x_icmplt rfl h1 (by decide) kt kf
theorem uX1_standsAsFactor_84 {d : Nat} {Q : Int → yM → Prop} {M : yM} {x1 : Int} {x2 : Int} (h1 : -2147483648 ≤ x1 ∧ x1 < 2147483648) (h2 : -2147483648 ≤ (97 + x2) ∧ (97 + x2) < 2147483648) (kt : x1 ≥ (97 + x2) → XW kX1_standsAsFactor d (some .boolean) (wQi Q) 96 [some (.inr (.inr 77)), some (.inl x1), some (.inl x2), none, none] [] M) (kf : x1 < (97 + x2) → XW kX1_standsAsFactor d (some .boolean) (wQi Q) 92 [some (.inr (.inr 77)), some (.inl x1), some (.inl x2), none, none] [] M) : XW kX1_standsAsFactor d (some .boolean) (wQi Q) 84 [some (.inr (.inr 77)), some (.inl x1), some (.inl x2), none, none] [] M := by
  refine x_iload_n rfl rfl ?_
  refine x_bipush 97 rfl (by decide) ?_
  refine x_iload_n rfl rfl ?_
  refine x_iadd rfl ?_
  exact x_icmpge rfl h1 h2 kt kf
theorem uX1_standsAsFactor_92 {d : Nat} {Q : Int → yM → Prop} {M : yM} {x1 : Int} {x2 : Int} (k : XW kX1_standsAsFactor d (some .boolean) (wQi Q) 97 [some (.inr (.inr 77)), some (.inl x1), some (.inl x2), none, none] [.inl 1] M) : XW kX1_standsAsFactor d (some .boolean) (wQi Q) 92 [some (.inr (.inr 77)), some (.inl x1), some (.inl x2), none, none] [] M := by
  refine x_iconst 1 rfl (by decide) ?_
  exact x_goto rfl k
theorem uX1_standsAsFactor_96 {d : Nat} {Q : Int → yM → Prop} {M : yM} {x1 : Int} {x2 : Int} (k : XW kX1_standsAsFactor d (some .boolean) (wQi Q) 97 [some (.inr (.inr 77)), some (.inl x1), some (.inl x2), none, none] [.inl 0] M) : XW kX1_standsAsFactor d (some .boolean) (wQi Q) 96 [some (.inr (.inr 77)), some (.inl x1), some (.inl x2), none, none] [] M := by
  refine x_iconst 0 rfl (by decide) ?_
  exact k
theorem uX1_standsAsFactor_97 {d : Nat} {Q : Int → yM → Prop} {M : yM} {x1 : Int} {x2 : Int} {s0 : Int} (h1 : -2147483648 ≤ x1 ∧ x1 < 2147483648) (kt : x1 < 120 → XW kX1_standsAsFactor d (some .boolean) (wQi Q) 114 [some (.inr (.inr 77)), some (.inl x1), some (.inl x2), some (.inl s0), none] [] M) (kf : x1 ≥ 120 → XW kX1_standsAsFactor d (some .boolean) (wQi Q) 104 [some (.inr (.inr 77)), some (.inl x1), some (.inl x2), some (.inl s0), none] [] M) : XW kX1_standsAsFactor d (some .boolean) (wQi Q) 97 [some (.inr (.inr 77)), some (.inl x1), some (.inl x2), none, none] [.inl s0] M := by
  refine x_istore_n rfl (Nat.le_of_ble_eq_true rfl) rfl ?_
  refine x_iload_n rfl rfl ?_
  refine x_bipush 120 rfl (by decide) ?_
  exact x_icmplt rfl h1 (by decide) kt kf
theorem uX1_standsAsFactor_104 {d : Nat} {Q : Int → yM → Prop} {M : yM} {x1 : Int} {x2 : Int} {x3 : Int} (h1 : -2147483648 ≤ x1 ∧ x1 < 2147483648) (kt : x1 > 122 → XW kX1_standsAsFactor d (some .boolean) (wQi Q) 114 [some (.inr (.inr 77)), some (.inl x1), some (.inl x2), some (.inl x3), none] [] M) (kf : x1 ≤ 122 → XW kX1_standsAsFactor d (some .boolean) (wQi Q) 110 [some (.inr (.inr 77)), some (.inl x1), some (.inl x2), some (.inl x3), none] [] M) : XW kX1_standsAsFactor d (some .boolean) (wQi Q) 104 [some (.inr (.inr 77)), some (.inl x1), some (.inl x2), some (.inl x3), none] [] M := by
  refine x_iload_n rfl rfl ?_
  refine x_bipush 122 rfl (by decide) ?_
  exact x_icmpgt rfl h1 (by decide) kt kf
theorem uX1_standsAsFactor_110 {d : Nat} {Q : Int → yM → Prop} {M : yM} {x1 : Int} {x2 : Int} {x3 : Int} (k : XW kX1_standsAsFactor d (some .boolean) (wQi Q) 115 [some (.inr (.inr 77)), some (.inl x1), some (.inl x2), some (.inl x3), none] [.inl 1] M) : XW kX1_standsAsFactor d (some .boolean) (wQi Q) 110 [some (.inr (.inr 77)), some (.inl x1), some (.inl x2), some (.inl x3), none] [] M := by
  refine x_iconst 1 rfl (by decide) ?_
  exact x_goto rfl k
theorem uX1_standsAsFactor_114 {d : Nat} {Q : Int → yM → Prop} {M : yM} {x1 : Int} {x2 : Int} {x3 : Int} (k : XW kX1_standsAsFactor d (some .boolean) (wQi Q) 115 [some (.inr (.inr 77)), some (.inl x1), some (.inl x2), some (.inl x3), none] [.inl 0] M) : XW kX1_standsAsFactor d (some .boolean) (wQi Q) 114 [some (.inr (.inr 77)), some (.inl x1), some (.inl x2), some (.inl x3), none] [] M := by
  refine x_iconst 0 rfl (by decide) ?_
  exact k
theorem uX1_standsAsFactor_115 {d : Nat} {Q : Int → yM → Prop} {M : yM} {x1 : Int} {x2 : Int} {x3 : Int} {s0 : Int} (h1 : -2147483648 ≤ x3 ∧ x3 < 2147483648) (kt : x3 ≠ 0 → XW kX1_standsAsFactor d (some .boolean) (wQi Q) 140 [some (.inr (.inr 77)), some (.inl x1), some (.inl x2), some (.inl x3), some (.inl s0)] [] M) (kf : x3 = 0 → XW kX1_standsAsFactor d (some .boolean) (wQi Q) 121 [some (.inr (.inr 77)), some (.inl x1), some (.inl x2), some (.inl x3), some (.inl s0)] [] M) : XW kX1_standsAsFactor d (some .boolean) (wQi Q) 115 [some (.inr (.inr 77)), some (.inl x1), some (.inl x2), some (.inl x3), none] [.inl s0] M := by
  refine x_istore rfl (Nat.le_of_ble_eq_true rfl) rfl ?_
  refine x_iload_n rfl rfl ?_
  exact x_ifne rfl h1 kt kf
theorem uX1_standsAsFactor_121 {d : Nat} {Q : Int → yM → Prop} {M : yM} {x1 : Int} {x2 : Int} {x3 : Int} {x4 : Int} (h1 : -2147483648 ≤ x4 ∧ x4 < 2147483648) (kt : x4 ≠ 0 → XW kX1_standsAsFactor d (some .boolean) (wQi Q) 140 [some (.inr (.inr 77)), some (.inl x1), some (.inl x2), some (.inl x3), some (.inl x4)] [] M) (kf : x4 = 0 → XW kX1_standsAsFactor d (some .boolean) (wQi Q) 126 [some (.inr (.inr 77)), some (.inl x1), some (.inl x2), some (.inl x3), some (.inl x4)] [] M) : XW kX1_standsAsFactor d (some .boolean) (wQi Q) 121 [some (.inr (.inr 77)), some (.inl x1), some (.inl x2), some (.inl x3), some (.inl x4)] [] M := by
  refine x_iload rfl rfl ?_
  exact x_ifne rfl h1 kt kf
theorem uX1_standsAsFactor_126 {d : Nat} {Q : Int → yM → Prop} {M : yM} {x1 : Int} {x2 : Int} {x3 : Int} {x4 : Int} (h1 : -2147483648 ≤ x1 ∧ x1 < 2147483648) (kt : x1 = 48 → XW kX1_standsAsFactor d (some .boolean) (wQi Q) 140 [some (.inr (.inr 77)), some (.inl x1), some (.inl x2), some (.inl x3), some (.inl x4)] [] M) (kf : x1 ≠ 48 → XW kX1_standsAsFactor d (some .boolean) (wQi Q) 132 [some (.inr (.inr 77)), some (.inl x1), some (.inl x2), some (.inl x3), some (.inl x4)] [] M) : XW kX1_standsAsFactor d (some .boolean) (wQi Q) 126 [some (.inr (.inr 77)), some (.inl x1), some (.inl x2), some (.inl x3), some (.inl x4)] [] M := by
  refine x_iload_n rfl rfl ?_
  refine x_bipush 48 rfl (by decide) ?_
  exact x_icmpeq rfl h1 (by decide) kt kf
theorem uX1_standsAsFactor_132 {d : Nat} {Q : Int → yM → Prop} {M : yM} {x1 : Int} {x2 : Int} {x3 : Int} {x4 : Int} (h1 : -2147483648 ≤ x1 ∧ x1 < 2147483648) (kt : x1 = 49 → XW kX1_standsAsFactor d (some .boolean) (wQi Q) 140 [some (.inr (.inr 77)), some (.inl x1), some (.inl x2), some (.inl x3), some (.inl x4)] [] M) (kf : x1 ≠ 49 → XW kX1_standsAsFactor d (some .boolean) (wQi Q) 138 [some (.inr (.inr 77)), some (.inl x1), some (.inl x2), some (.inl x3), some (.inl x4)] [] M) : XW kX1_standsAsFactor d (some .boolean) (wQi Q) 132 [some (.inr (.inr 77)), some (.inl x1), some (.inl x2), some (.inl x3), some (.inl x4)] [] M := by
  refine x_iload_n rfl rfl ?_
  refine x_bipush 49 rfl (by decide) ?_
  exact x_icmpeq rfl h1 (by decide) kt kf
theorem uX1_standsAsFactor_138 {d : Nat} {Q : Int → yM → Prop} {M : yM} {x1 : Int} {x2 : Int} {x3 : Int} {x4 : Int} (k : Q 0 M) : XW kX1_standsAsFactor d (some .boolean) (wQi Q) 138 [some (.inr (.inr 77)), some (.inl x1), some (.inl x2), some (.inl x3), some (.inl x4)] [] M := by
  refine x_iconst 0 rfl (by decide) ?_
  exact x_zreturn rfl (by decide) k
theorem uX1_standsAsFactor_140 {d : Nat} {Q : Int → yM → Prop} {M : yM} {x1 : Int} {x2 : Int} {x3 : Int} {x4 : Int} (h1 : -2147483648 ≤ x4 ∧ x4 < 2147483648) (kt : x4 = 0 → XW kX1_standsAsFactor d (some .boolean) (wQi Q) 160 [some (.inr (.inr 77)), some (.inl x1), some (.inl x2), some (.inl x3), some (.inl x4)] [] M) (kf : x4 ≠ 0 → XW kX1_standsAsFactor d (some .boolean) (wQi Q) 145 [some (.inr (.inr 77)), some (.inl x1), some (.inl x2), some (.inl x3), some (.inl x4)] [] M) : XW kX1_standsAsFactor d (some .boolean) (wQi Q) 140 [some (.inr (.inr 77)), some (.inl x1), some (.inl x2), some (.inl x3), some (.inl x4)] [] M := by
  refine x_iload rfl rfl ?_
  exact x_ifeq rfl h1 kt kf
theorem uX1_standsAsFactor_145 {d : Nat} {Q : Int → yM → Prop} {M : yM} {x1 : Int} {x2 : Int} {x3 : Int} {x4 : Int} (k : ∀ M', M' = (put M 77 4 (yor (ld M 77 4) (yshl 1 (x1 - 120)))) → XW kX1_standsAsFactor d (some .boolean) (wQi Q) 160 [some (.inr (.inr 77)), some (.inl x1), some (.inl x2), some (.inl x3), some (.inl x4)] [] M') : XW kX1_standsAsFactor d (some .boolean) (wQi Q) 145 [some (.inr (.inr 77)), some (.inl x1), some (.inl x2), some (.inl x3), some (.inl x4)] [] M := by
  refine x_aload_n rfl rfl ?_
  refine x_dupa rfl ?_
  refine x_getI rfl sh77 rfl ?_
  refine x_iconst 1 rfl (by decide) ?_
  refine x_iload_n rfl rfl ?_
  refine x_bipush 120 rfl (by decide) ?_
  refine x_isub rfl ?_
  refine x_ishl rfl ?_
  refine x_ior rfl ?_
  refine x_putI rfl rfl sh77 rfl ?_
  exact k _ rfl
theorem uX1_standsAsFactor_160 {d : Nat} {Q : Int → yM → Prop} {M : yM} {x1 : Int} {x2 : Int} {x3 : Int} {x4 : Int} (k : XCv d 12 [.inr (.inr 77), .inl x1] M (fun M' => XW kX1_standsAsFactor (d + 1) (some .boolean) (wQi Q) 165 [some (.inr (.inr 77)), some (.inl x1), some (.inl x2), some (.inl x3), some (.inl x4)] [] M')) : XW kX1_standsAsFactor (d + 1) (some .boolean) (wQi Q) 160 [some (.inr (.inr 77)), some (.inl x1), some (.inl x2), some (.inl x3), some (.inl x4)] [] M := by
  refine x_aload_n rfl rfl ?_
  refine x_iload_n rfl rfl ?_
  exact x_callv (args := [.inr (.inr 77), .inl x1]) rfl rfl rfl k
theorem uX1_standsAsFactor_165 {d : Nat} {Q : Int → yM → Prop} {M : yM} {x1 : Int} {x2 : Int} {x3 : Int} {x4 : Int} (k : ∀ M', M' = (put M 77 9 1) → XW kX1_standsAsFactor d (some .boolean) (wQi Q) 170 [some (.inr (.inr 77)), some (.inl x1), some (.inl x2), some (.inl x3), some (.inl x4)] [] M') : XW kX1_standsAsFactor d (some .boolean) (wQi Q) 165 [some (.inr (.inr 77)), some (.inl x1), some (.inl x2), some (.inl x3), some (.inl x4)] [] M := by
  refine x_aload_n rfl rfl ?_
  refine x_iconst 1 rfl (by decide) ?_
  refine x_putZ rfl rfl sh77 rfl (by decide) ?_
  exact k _ rfl
theorem uX1_standsAsFactor_170 {d : Nat} {Q : Int → yM → Prop} {M : yM} {x1 : Int} {x2 : Int} {x3 : Int} {x4 : Int} (k : Q 1 M) : XW kX1_standsAsFactor d (some .boolean) (wQi Q) 170 [some (.inr (.inr 77)), some (.inl x1), some (.inl x2), some (.inl x3), some (.inl x4)] [] M := by
  refine x_iconst 1 rfl (by decide) ?_
  exact x_zreturn rfl (by decide) k
theorem eX1_standsAfter {d : Nat} {Q : Int → yM → Prop} {M : yM} {x1 : Int}  (h : XW kX1_standsAfter d (some .boolean) (wQi Q) 0 [some (.inr (.inr 77)), some (.inl x1)] [] M) : XCi d 9 [.inr (.inr 77), .inl x1] M Q :=
  XC.ofW (Mm := (yX1_standsAfter, cX1_standsAfter, 2, (some .boolean), 2, kX1_standsAfter)) rfl (rcv_ok sh77) rfl rfl h
theorem uX1_standsAfter_0 {d : Nat} {Q : Int → yM → Prop} {M : yM} {x1 : Int} (h1 : -2147483648 ≤ x1 ∧ x1 < 2147483648) (kt : x1 ≠ 41 → XW kX1_standsAfter d (some .boolean) (wQi Q) 40 [some (.inr (.inr 77)), some (.inl x1)] [] M) (kf : x1 = 41 → XW kX1_standsAfter d (some .boolean) (wQi Q) 6 [some (.inr (.inr 77)), some (.inl x1)] [] M) : XW kX1_standsAfter d (some .boolean) (wQi Q) 0 [some (.inr (.inr 77)), some (.inl x1)] [] M := by
  refine x_iload_n rfl rfl ?_
  refine x_bipush 41 rfl (by decide) ?_
  exact x_icmpne rfl h1 (by decide) kt kf
theorem uX1_standsAfter_6 {d : Nat} {Q : Int → yM → Prop} {M : yM} {x1 : Int} (kt : (ld M 77 8) ≤ 0 → XW kX1_standsAfter d (some .boolean) (wQi Q) 40 [some (.inr (.inr 77)), some (.inl x1)] [] M) (kf : (ld M 77 8) > 0 → XW kX1_standsAfter d (some .boolean) (wQi Q) 13 [some (.inr (.inr 77)), some (.inl x1)] [] M) : XW kX1_standsAfter d (some .boolean) (wQi Q) 6 [some (.inr (.inr 77)), some (.inl x1)] [] M := by
  refine x_aload_n rfl rfl ?_
  refine x_getI rfl sh77 rfl ?_
  exact x_ifle rfl (rng_ld _ _ _) kt kf
theorem uX1_standsAfter_13 {d : Nat} {Q : Int → yM → Prop} {M : yM} {x1 : Int} (k : XCv d 11 [.inr (.inr 77), .inl 1] M (fun M' => XW kX1_standsAfter (d + 1) (some .boolean) (wQi Q) 18 [some (.inr (.inr 77)), some (.inl x1)] [] M')) : XW kX1_standsAfter (d + 1) (some .boolean) (wQi Q) 13 [some (.inr (.inr 77)), some (.inl x1)] [] M := by
  refine x_aload_n rfl rfl ?_
  refine x_iconst 1 rfl (by decide) ?_
  exact x_callv (args := [.inr (.inr 77), .inl 1]) rfl rfl rfl k
theorem uX1_standsAfter_18 {d : Nat} {Q : Int → yM → Prop} {M : yM} {x1 : Int} (k : ∀ M', M' = (put M 77 6 ((ld M 77 6) - 1)) → XW kX1_standsAfter d (some .boolean) (wQi Q) 28 [some (.inr (.inr 77)), some (.inl x1)] [] M') : XW kX1_standsAfter d (some .boolean) (wQi Q) 18 [some (.inr (.inr 77)), some (.inl x1)] [] M := by
  refine x_aload_n rfl rfl ?_
  refine x_dupa rfl ?_
  refine x_getI rfl sh77 rfl ?_
  refine x_iconst 1 rfl (by decide) ?_
  refine x_isub rfl ?_
  refine x_putI rfl rfl sh77 rfl ?_
  exact k _ rfl
theorem uX1_standsAfter_28 {d : Nat} {Q : Int → yM → Prop} {M : yM} {x1 : Int} (k : ∀ M', M' = (put M 77 8 ((ld M 77 8) - 1)) → XW kX1_standsAfter d (some .boolean) (wQi Q) 38 [some (.inr (.inr 77)), some (.inl x1)] [] M') : XW kX1_standsAfter d (some .boolean) (wQi Q) 28 [some (.inr (.inr 77)), some (.inl x1)] [] M := by
  refine x_aload_n rfl rfl ?_
  refine x_dupa rfl ?_
  refine x_getI rfl sh77 rfl ?_
  refine x_iconst 1 rfl (by decide) ?_
  refine x_isub rfl ?_
  refine x_putI rfl rfl sh77 rfl ?_
  exact k _ rfl
theorem uX1_standsAfter_38 {d : Nat} {Q : Int → yM → Prop} {M : yM} {x1 : Int} (k : Q 1 M) : XW kX1_standsAfter d (some .boolean) (wQi Q) 38 [some (.inr (.inr 77)), some (.inl x1)] [] M := by
  refine x_iconst 1 rfl (by decide) ?_
  exact x_zreturn rfl (by decide) k
theorem uX1_standsAfter_40 {d : Nat} {Q : Int → yM → Prop} {M : yM} {x1 : Int} (h1 : -2147483648 ≤ x1 ∧ x1 < 2147483648) (kt : x1 = 43 → XW kX1_standsAfter d (some .boolean) (wQi Q) 60 [some (.inr (.inr 77)), some (.inl x1)] [] M) (kf : x1 ≠ 43 → XW kX1_standsAfter d (some .boolean) (wQi Q) 46 [some (.inr (.inr 77)), some (.inl x1)] [] M) : XW kX1_standsAfter d (some .boolean) (wQi Q) 40 [some (.inr (.inr 77)), some (.inl x1)] [] M := by
  refine x_iload_n rfl rfl ?_
  refine x_bipush 43 rfl (by decide) ?_
  exact x_icmpeq rfl h1 (by decide) kt kf
theorem uX1_standsAfter_46 {d : Nat} {Q : Int → yM → Prop} {M : yM} {x1 : Int} (h1 : -2147483648 ≤ x1 ∧ x1 < 2147483648) (kt : x1 = 38 → XW kX1_standsAfter d (some .boolean) (wQi Q) 60 [some (.inr (.inr 77)), some (.inl x1)] [] M) (kf : x1 ≠ 38 → XW kX1_standsAfter d (some .boolean) (wQi Q) 52 [some (.inr (.inr 77)), some (.inl x1)] [] M) : XW kX1_standsAfter d (some .boolean) (wQi Q) 46 [some (.inr (.inr 77)), some (.inl x1)] [] M := by
  refine x_iload_n rfl rfl ?_
  refine x_bipush 38 rfl (by decide) ?_
  exact x_icmpeq rfl h1 (by decide) kt kf
theorem uX1_standsAfter_52 {d : Nat} {Q : Int → yM → Prop} {M : yM} {x1 : Int} (h1 : -2147483648 ≤ x1 ∧ x1 < 2147483648) (kt : x1 = 59 → XW kX1_standsAfter d (some .boolean) (wQi Q) 60 [some (.inr (.inr 77)), some (.inl x1)] [] M) (kf : x1 ≠ 59 → XW kX1_standsAfter d (some .boolean) (wQi Q) 58 [some (.inr (.inr 77)), some (.inl x1)] [] M) : XW kX1_standsAfter d (some .boolean) (wQi Q) 52 [some (.inr (.inr 77)), some (.inl x1)] [] M := by
  refine x_iload_n rfl rfl ?_
  refine x_bipush 59 rfl (by decide) ?_
  exact x_icmpeq rfl h1 (by decide) kt kf
theorem uX1_standsAfter_58 {d : Nat} {Q : Int → yM → Prop} {M : yM} {x1 : Int} (k : Q 0 M) : XW kX1_standsAfter d (some .boolean) (wQi Q) 58 [some (.inr (.inr 77)), some (.inl x1)] [] M := by
  refine x_iconst 0 rfl (by decide) ?_
  exact x_zreturn rfl (by decide) k
theorem uX1_standsAfter_60 {d : Nat} {Q : Int → yM → Prop} {M : yM} {x1 : Int} (k : XCi d 13 [.inl x1] M (fun v M' => XW kX1_standsAfter (d + 1) (some .boolean) (wQi Q) 65 [some (.inr (.inr 77)), some (.inl x1)] [.inl v, .inr (.inr 77)] M')) : XW kX1_standsAfter (d + 1) (some .boolean) (wQi Q) 60 [some (.inr (.inr 77)), some (.inl x1)] [] M := by
  refine x_aload_n rfl rfl ?_
  refine x_iload_n rfl rfl ?_
  exact x_calli (args := [.inl x1]) rfl rfl rfl k
theorem uX1_standsAfter_65 {d : Nat} {Q : Int → yM → Prop} {M : yM} {x1 : Int} {s0 : Int} (k : XCv d 11 [.inr (.inr 77), .inl s0] M (fun M' => XW kX1_standsAfter (d + 1) (some .boolean) (wQi Q) 68 [some (.inr (.inr 77)), some (.inl x1)] [] M')) : XW kX1_standsAfter (d + 1) (some .boolean) (wQi Q) 65 [some (.inr (.inr 77)), some (.inl x1)] [.inl s0, .inr (.inr 77)] M := by
  exact x_callv (args := [.inr (.inr 77), .inl s0]) rfl rfl rfl k
theorem uX1_standsAfter_68 {d : Nat} {Q : Int → yM → Prop} {M : yM} {x1 : Int} (k : ∀ M', M' = (put M 77 9 0) → XW kX1_standsAfter d (some .boolean) (wQi Q) 73 [some (.inr (.inr 77)), some (.inl x1)] [] M') : XW kX1_standsAfter d (some .boolean) (wQi Q) 68 [some (.inr (.inr 77)), some (.inl x1)] [] M := by
  refine x_aload_n rfl rfl ?_
  refine x_iconst 0 rfl (by decide) ?_
  refine x_putZ rfl rfl sh77 rfl (by decide) ?_
  exact k _ rfl
theorem uX1_standsAfter_73 {d : Nat} {Q : Int → yM → Prop} {M : yM} {x1 : Int} (k : XCi d 10 [.inr (.inr 77), .inl x1] M (fun v M' => XW kX1_standsAfter (d + 1) (some .boolean) (wQi Q) 78 [some (.inr (.inr 77)), some (.inl x1)] [.inl v] M')) : XW kX1_standsAfter (d + 1) (some .boolean) (wQi Q) 73 [some (.inr (.inr 77)), some (.inl x1)] [] M := by
  refine x_aload_n rfl rfl ?_
  refine x_iload_n rfl rfl ?_
  exact x_calli (args := [.inr (.inr 77), .inl x1]) rfl rfl rfl k
theorem uX1_standsAfter_78 {d : Nat} {Q : Int → yM → Prop} {M : yM} {x1 : Int} {s0 : Int} (h1 : s0 = 0 ∨ s0 = 1) (k : Q s0 M) : XW kX1_standsAfter d (some .boolean) (wQi Q) 78 [some (.inr (.inr 77)), some (.inl x1)] [.inl s0] M := by
  exact x_zreturn rfl h1 k
theorem eX1_waits {d : Nat} {Q : Int → yM → Prop} {M : yM} {x1 : Int}  (h : XW kX1_waits d (some .boolean) (wQi Q) 0 [some (.inr (.inr 77)), some (.inl x1)] [] M) : XCi d 10 [.inr (.inr 77), .inl x1] M Q :=
  XC.ofW (Mm := (yX1_waits, cX1_waits, 2, (some .boolean), 2, kX1_waits)) rfl (rcv_ok sh77) rfl rfl h
theorem uX1_waits_0 {d : Nat} {Q : Int → yM → Prop} {M : yM} {x1 : Int} (kt : (ld M 77 6) < 60 → XW kX1_waits d (some .boolean) (wQi Q) 11 [some (.inr (.inr 77)), some (.inl x1)] [] M) (kf : (ld M 77 6) ≥ 60 → XW kX1_waits d (some .boolean) (wQi Q) 9 [some (.inr (.inr 77)), some (.inl x1)] [] M) : XW kX1_waits d (some .boolean) (wQi Q) 0 [some (.inr (.inr 77)), some (.inl x1)] [] M := by
  refine x_aload_n rfl rfl ?_
  refine x_getI rfl sh77 rfl ?_
  refine x_bipush 60 rfl (by decide) ?_
  exact x_icmplt rfl (rng_ld _ _ _) (by decide) kt kf
theorem uX1_waits_9 {d : Nat} {Q : Int → yM → Prop} {M : yM} {x1 : Int} (k : Q 0 M) : XW kX1_waits d (some .boolean) (wQi Q) 9 [some (.inr (.inr 77)), some (.inl x1)] [] M := by
  refine x_iconst 0 rfl (by decide) ?_
  exact x_zreturn rfl (by decide) k
theorem uX1_waits_11 {d : Nat} {Q : Int → yM → Prop} {M : yM} {x1 : Int} (h1 : 0 ≤ (ld M 77 6) ∧ (ld M 77 6) < 60) (k : ∀ M', M' = (put M 80 (ld M 77 6) x1) → XW kX1_waits d (some .boolean) (wQi Q) 21 [some (.inr (.inr 77)), some (.inl x1)] [] M') : XW kX1_waits d (some .boolean) (wQi Q) 11 [some (.inr (.inr 77)), some (.inl x1)] [] M := by
  refine x_aload_n rfl rfl ?_
  refine x_getR rfl sh77 rfl ?_
  refine x_aload_n rfl rfl ?_
  refine x_getI rfl sh77 rfl ?_
  refine x_iload_n rfl rfl ?_
  refine x_iastore rfl ⟨sh80, Nat.le_of_ble_eq_true rfl⟩ h1  ?_
  exact k _ rfl
theorem uX1_waits_21 {d : Nat} {Q : Int → yM → Prop} {M : yM} {x1 : Int} (k : ∀ M', M' = (put M 77 6 ((ld M 77 6) + 1)) → XW kX1_waits d (some .boolean) (wQi Q) 31 [some (.inr (.inr 77)), some (.inl x1)] [] M') : XW kX1_waits d (some .boolean) (wQi Q) 21 [some (.inr (.inr 77)), some (.inl x1)] [] M := by
  refine x_aload_n rfl rfl ?_
  refine x_dupa rfl ?_
  refine x_getI rfl sh77 rfl ?_
  refine x_iconst 1 rfl (by decide) ?_
  refine x_iadd rfl ?_
  refine x_putI rfl rfl sh77 rfl ?_
  exact k _ rfl
theorem uX1_waits_31 {d : Nat} {Q : Int → yM → Prop} {M : yM} {x1 : Int} (k : Q 1 M) : XW kX1_waits d (some .boolean) (wQi Q) 31 [some (.inr (.inr 77)), some (.inl x1)] [] M := by
  refine x_iconst 1 rfl (by decide) ?_
  exact x_zreturn rfl (by decide) k
theorem eX1_writeWaiting {d : Nat} {Q : yM → Prop} {M : yM} {x1 : Int}  (h : XW kX1_writeWaiting d none (wQv Q) 0 [some (.inr (.inr 77)), some (.inl x1)] [] M) : XCv d 11 [.inr (.inr 77), .inl x1] M Q :=
  XC.ofW (Mm := (yX1_writeWaiting, cX1_writeWaiting, 2, none, 2, kX1_writeWaiting)) rfl (rcv_ok sh77) rfl rfl h
theorem uX1_writeWaiting_0 {d : Nat} {Q : yM → Prop} {M : yM} {x1 : Int} (kt : (ld M 77 6) ≤ 0 → XW kX1_writeWaiting d none (wQv Q) 51 [some (.inr (.inr 77)), some (.inl x1)] [] M) (kf : (ld M 77 6) > 0 → XW kX1_writeWaiting d none (wQv Q) 7 [some (.inr (.inr 77)), some (.inl x1)] [] M) : XW kX1_writeWaiting d none (wQv Q) 0 [some (.inr (.inr 77)), some (.inl x1)] [] M := by
  refine x_aload_n rfl rfl ?_
  refine x_getI rfl sh77 rfl ?_
  exact x_ifle rfl (rng_ld _ _ _) kt kf
theorem uX1_writeWaiting_7 {d : Nat} {Q : yM → Prop} {M : yM} {x1 : Int} (h1 : 0 ≤ ((ld M 77 6) - 1) ∧ ((ld M 77 6) - 1) < 60) (k : XCi d 13 [.inl (ld M 80 ((ld M 77 6) - 1))] M (fun v M' => XW kX1_writeWaiting (d + 1) none (wQv Q) 21 [some (.inr (.inr 77)), some (.inl x1)] [.inl v] M')) : XW kX1_writeWaiting (d + 1) none (wQv Q) 7 [some (.inr (.inr 77)), some (.inl x1)] [] M := by
  refine x_aload_n rfl rfl ?_
  refine x_getR rfl sh77 rfl ?_
  refine x_aload_n rfl rfl ?_
  refine x_getI rfl sh77 rfl ?_
  refine x_iconst 1 rfl (by decide) ?_
  refine x_isub rfl ?_
  refine x_iaload rfl ⟨sh80, Nat.le_of_ble_eq_true rfl⟩ h1 ?_
  exact x_calli (args := [.inl (ld M 80 ((ld M 77 6) - 1))]) rfl rfl rfl k
theorem uX1_writeWaiting_21 {d : Nat} {Q : yM → Prop} {M : yM} {x1 : Int} {s0 : Int} (h1 : -2147483648 ≤ s0 ∧ s0 < 2147483648) (h2 : -2147483648 ≤ x1 ∧ x1 < 2147483648) (kt : s0 < x1 → XW kX1_writeWaiting d none (wQv Q) 51 [some (.inr (.inr 77)), some (.inl x1)] [] M) (kf : s0 ≥ x1 → XW kX1_writeWaiting d none (wQv Q) 25 [some (.inr (.inr 77)), some (.inl x1)] [] M) : XW kX1_writeWaiting d none (wQv Q) 21 [some (.inr (.inr 77)), some (.inl x1)] [.inl s0] M := by
  refine x_iload_n rfl rfl ?_
  exact x_icmplt rfl h1 h2 kt kf
theorem uX1_writeWaiting_25 {d : Nat} {Q : yM → Prop} {M : yM} {x1 : Int} (k : ∀ M', M' = (put M 77 6 ((ld M 77 6) - 1)) → XW kX1_writeWaiting d none (wQv Q) 35 [some (.inr (.inr 77)), some (.inl x1)] [] M') : XW kX1_writeWaiting d none (wQv Q) 25 [some (.inr (.inr 77)), some (.inl x1)] [] M := by
  refine x_aload_n rfl rfl ?_
  refine x_dupa rfl ?_
  refine x_getI rfl sh77 rfl ?_
  refine x_iconst 1 rfl (by decide) ?_
  refine x_isub rfl ?_
  refine x_putI rfl rfl sh77 rfl ?_
  exact k _ rfl
theorem uX1_writeWaiting_35 {d : Nat} {Q : yM → Prop} {M : yM} {x1 : Int} (h1 : 0 ≤ (ld M 77 6) ∧ (ld M 77 6) < 60) (k : XCv d 12 [.inr (.inr 77), .inl (ld M 80 (ld M 77 6))] M (fun M' => XW kX1_writeWaiting (d + 1) none (wQv Q) 48 [some (.inr (.inr 77)), some (.inl x1)] [] M')) : XW kX1_writeWaiting (d + 1) none (wQv Q) 35 [some (.inr (.inr 77)), some (.inl x1)] [] M := by
  refine x_aload_n rfl rfl ?_
  refine x_aload_n rfl rfl ?_
  refine x_getR rfl sh77 rfl ?_
  refine x_aload_n rfl rfl ?_
  refine x_getI rfl sh77 rfl ?_
  refine x_iaload rfl ⟨sh80, Nat.le_of_ble_eq_true rfl⟩ h1 ?_
  exact x_callv (args := [.inr (.inr 77), .inl (ld M 80 (ld M 77 6))]) rfl rfl rfl k
theorem uX1_writeWaiting_48 {d : Nat} {Q : yM → Prop} {M : yM} {x1 : Int} (k : XW kX1_writeWaiting d none (wQv Q) 0 [some (.inr (.inr 77)), some (.inl x1)] [] M) : XW kX1_writeWaiting d none (wQv Q) 48 [some (.inr (.inr 77)), some (.inl x1)] [] M := by
  exact x_goto rfl k
theorem uX1_writeWaiting_51 {d : Nat} {Q : yM → Prop} {M : yM} {x1 : Int} (k : Q M) : XW kX1_writeWaiting d none (wQv Q) 51 [some (.inr (.inr 77)), some (.inl x1)] [] M := by
  exact x_return rfl k
theorem eX1_write {d : Nat} {Q : yM → Prop} {M : yM} {x1 : Int}  (h : XW kX1_write d none (wQv Q) 0 [some (.inr (.inr 77)), some (.inl x1)] [] M) : XCv d 12 [.inr (.inr 77), .inl x1] M Q :=
  XC.ofW (Mm := (yX1_write, cX1_write, 2, none, 2, kX1_write)) rfl (rcv_ok sh77) rfl rfl h
theorem uX1_write_0 {d : Nat} {Q : yM → Prop} {M : yM} {x1 : Int} (kt : (ld M 77 3) ≥ 60 → XW kX1_write d none (wQv Q) 29 [some (.inr (.inr 77)), some (.inl x1)] [] M) (kf : (ld M 77 3) < 60 → XW kX1_write d none (wQv Q) 9 [some (.inr (.inr 77)), some (.inl x1)] [] M) : XW kX1_write d none (wQv Q) 0 [some (.inr (.inr 77)), some (.inl x1)] [] M := by
  refine x_aload_n rfl rfl ?_
  refine x_getI rfl sh77 rfl ?_
  refine x_bipush 60 rfl (by decide) ?_
  exact x_icmpge rfl (rng_ld _ _ _) (by decide) kt kf
theorem uX1_write_9 {d : Nat} {Q : yM → Prop} {M : yM} {x1 : Int} (h1 : 0 ≤ (ld M 77 3) ∧ (ld M 77 3) < 60) (k : ∀ M', M' = (put M 79 (ld M 77 3) x1) → XW kX1_write d none (wQv Q) 19 [some (.inr (.inr 77)), some (.inl x1)] [] M') : XW kX1_write d none (wQv Q) 9 [some (.inr (.inr 77)), some (.inl x1)] [] M := by
  refine x_aload_n rfl rfl ?_
  refine x_getR rfl sh77 rfl ?_
  refine x_aload_n rfl rfl ?_
  refine x_getI rfl sh77 rfl ?_
  refine x_iload_n rfl rfl ?_
  refine x_iastore rfl ⟨sh79, Nat.le_of_ble_eq_true rfl⟩ h1  ?_
  exact k _ rfl
theorem uX1_write_19 {d : Nat} {Q : yM → Prop} {M : yM} {x1 : Int} (k : ∀ M', M' = (put M 77 3 ((ld M 77 3) + 1)) → XW kX1_write d none (wQv Q) 29 [some (.inr (.inr 77)), some (.inl x1)] [] M') : XW kX1_write d none (wQv Q) 19 [some (.inr (.inr 77)), some (.inl x1)] [] M := by
  refine x_aload_n rfl rfl ?_
  refine x_dupa rfl ?_
  refine x_getI rfl sh77 rfl ?_
  refine x_iconst 1 rfl (by decide) ?_
  refine x_iadd rfl ?_
  refine x_putI rfl rfl sh77 rfl ?_
  exact k _ rfl
theorem uX1_write_29 {d : Nat} {Q : yM → Prop} {M : yM} {x1 : Int} (k : Q M) : XW kX1_write d none (wQv Q) 29 [some (.inr (.inr 77)), some (.inl x1)] [] M := by
  exact x_return rfl k
theorem eX1_strength {d : Nat} {Q : Int → yM → Prop} {M : yM} {x0 : Int}  (h : XW kX1_strength d (some .int) (wQi Q) 0 [some (.inl x0)] [] M) : XCi d 13 [.inl x0] M Q :=
  XC.ofW (Mm := (yX1_strength, cX1_strength, 1, (some .int), 0, kX1_strength)) rfl rfl rfl rfl h
theorem uX1_strength_0 {d : Nat} {Q : Int → yM → Prop} {M : yM} {x0 : Int} (h1 : -2147483648 ≤ x0 ∧ x0 < 2147483648) (c0 : x0 = 38 → XW kX1_strength d (some .int) (wQi Q) 48 [some (.inl x0)] [] M) (c1 : x0 = 40 → XW kX1_strength d (some .int) (wQi Q) 44 [some (.inl x0)] [] M) (c2 : x0 = 43 → XW kX1_strength d (some .int) (wQi Q) 46 [some (.inl x0)] [] M) (c3 : x0 = 59 → XW kX1_strength d (some .int) (wQi Q) 50 [some (.inl x0)] [] M) (df : x0 ≠ 38 → x0 ≠ 40 → x0 ≠ 43 → x0 ≠ 59 → XW kX1_strength d (some .int) (wQi Q) 52 [some (.inl x0)] [] M) : XW kX1_strength d (some .int) (wQi Q) 0 [some (.inl x0)] [] M := by
  refine x_iload_n rfl rfl ?_
  by_cases q0 : x0 = 38
  · exact x_lsw rfl (by rw [q0]; rfl) (c0 q0)
  by_cases q1 : x0 = 40
  · exact x_lsw rfl (by rw [q1]; rfl) (c1 q1)
  by_cases q2 : x0 = 43
  · exact x_lsw rfl (by rw [q2]; rfl) (c2 q2)
  by_cases q3 : x0 = 59
  · exact x_lsw rfl (by rw [q3]; rfl) (c3 q3)
  exact x_lsw rfl (by rw [Int32.toInt_ofInt_of_le h1.1 h1.2]; simp [Jvm.Op.lookupswitch.offset, Ne.symm q0, Ne.symm q1, Ne.symm q2, Ne.symm q3]) (df q0 q1 q2 q3)
theorem uX1_strength_44 {d : Nat} {Q : Int → yM → Prop} {M : yM} {x0 : Int} (k : Q 0 M) : XW kX1_strength d (some .int) (wQi Q) 44 [some (.inl x0)] [] M := by
  refine x_iconst 0 rfl (by decide) ?_
  exact x_ireturn rfl k
theorem uX1_strength_46 {d : Nat} {Q : Int → yM → Prop} {M : yM} {x0 : Int} (k : Q 1 M) : XW kX1_strength d (some .int) (wQi Q) 46 [some (.inl x0)] [] M := by
  refine x_iconst 1 rfl (by decide) ?_
  exact x_ireturn rfl k
theorem uX1_strength_48 {d : Nat} {Q : Int → yM → Prop} {M : yM} {x0 : Int} (k : Q 2 M) : XW kX1_strength d (some .int) (wQi Q) 48 [some (.inl x0)] [] M := by
  refine x_iconst 2 rfl (by decide) ?_
  exact x_ireturn rfl k
theorem uX1_strength_50 {d : Nat} {Q : Int → yM → Prop} {M : yM} {x0 : Int} (k : Q 3 M) : XW kX1_strength d (some .int) (wQi Q) 50 [some (.inl x0)] [] M := by
  refine x_iconst 3 rfl (by decide) ?_
  exact x_ireturn rfl k
theorem uX1_strength_52 {d : Nat} {Q : Int → yM → Prop} {M : yM} {x0 : Int} (k : Q 4 M) : XW kX1_strength d (some .int) (wQi Q) 52 [some (.inl x0)] [] M := by
  refine x_iconst 4 rfl (by decide) ?_
  exact x_ireturn rfl k
theorem eX2_evaluate {d : Nat} {Q : Int → yM → Prop} {M : yM} {x1 : Nat} {x2 : Int} {x3 : Int} {x4 : Int}  (h : XW kX2_evaluate d (some .int) (wQi Q) 0 [some (.inr (.inr 81)), some (.inr (.inr x1)), some (.inl x2), some (.inl x3), some (.inl x4), none, none, none, none] [] M) : XCi d 15 [.inr (.inr 81), .inr (.inr x1), .inl x2, .inl x3, .inl x4] M Q :=
  XC.ofW (Mm := (yX2_evaluate, cX2_evaluate, 9, (some .int), 3, kX2_evaluate)) rfl (rcv_ok sh81) rfl rfl h
theorem uX2_evaluate_0 {d : Nat} {Q : Int → yM → Prop} {M : yM} {x1 : Nat} {x2 : Int} {x3 : Int} {x4 : Int} (k : XW kX2_evaluate d (some .int) (wQi Q) 6 [some (.inr (.inr 81)), some (.inr (.inr x1)), some (.inl x2), some (.inl x3), some (.inl x4), some (.inl 0), some (.inl 0), none, none] [] M) : XW kX2_evaluate d (some .int) (wQi Q) 0 [some (.inr (.inr 81)), some (.inr (.inr x1)), some (.inl x2), some (.inl x3), some (.inl x4), none, none, none, none] [] M := by
  refine x_iconst 0 rfl (by decide) ?_
  refine x_istore rfl (Nat.le_of_ble_eq_true rfl) rfl ?_
  refine x_iconst 0 rfl (by decide) ?_
  refine x_istore rfl (Nat.le_of_ble_eq_true rfl) rfl ?_
  exact k
theorem uX2_evaluate_6 {d : Nat} {Q : Int → yM → Prop} {M : yM} {x1 : Nat} {x2 : Int} {x3 : Int} {x4 : Int} {x5 : Int} {x6 : Int} {wx7 : Option yV} {wx8 : Option yV} (h1 : termSh x1) (h2 : -2147483648 ≤ x6 ∧ x6 < 2147483648) (kt : x6 ≥ (ld M x1 1) → XW kX2_evaluate d (some .int) (wQi Q) 201 [some (.inr (.inr 81)), some (.inr (.inr x1)), some (.inl x2), some (.inl x3), some (.inl x4), some (.inl x5), some (.inl x6), wx7, wx8] [] M) (kf : x6 < (ld M x1 1) → XW kX2_evaluate d (some .int) (wQi Q) 15 [some (.inr (.inr 81)), some (.inr (.inr x1)), some (.inl x2), some (.inl x3), some (.inl x4), some (.inl x5), some (.inl x6), wx7, wx8] [] M) : XW kX2_evaluate d (some .int) (wQi Q) 6 [some (.inr (.inr 81)), some (.inr (.inr x1)), some (.inl x2), some (.inl x3), some (.inl x4), some (.inl x5), some (.inl x6), wx7, wx8] [] M := by
  refine x_iload rfl rfl ?_
  refine x_aload_n rfl rfl ?_
  refine x_getI rfl h1.1 rfl ?_
  exact x_icmpge rfl h2 (rng_ld _ _ _) kt kf
theorem uX2_evaluate_15 {d : Nat} {Q : Int → yM → Prop} {M : yM} {x1 : Nat} {x2 : Int} {x3 : Int} {x4 : Int} {x5 : Int} {x6 : Int} {wx7 : Option yV} {wx8 : Option yV} (h1 : -2147483648 ≤ x6 ∧ x6 < 2147483648) (kt : x6 ≥ 60 → XW kX2_evaluate d (some .int) (wQi Q) 201 [some (.inr (.inr 81)), some (.inr (.inr x1)), some (.inl x2), some (.inl x3), some (.inl x4), some (.inl x5), some (.inl x6), wx7, wx8] [] M) (kf : x6 < 60 → XW kX2_evaluate d (some .int) (wQi Q) 22 [some (.inr (.inr 81)), some (.inr (.inr x1)), some (.inl x2), some (.inl x3), some (.inl x4), some (.inl x5), some (.inl x6), wx7, wx8] [] M) : XW kX2_evaluate d (some .int) (wQi Q) 15 [some (.inr (.inr 81)), some (.inr (.inr x1)), some (.inl x2), some (.inl x3), some (.inl x4), some (.inl x5), some (.inl x6), wx7, wx8] [] M := by
  refine x_iload rfl rfl ?_
  refine x_bipush 60 rfl (by decide) ?_
  exact x_icmpge rfl h1 (by decide) kt kf
theorem uX2_evaluate_22 {d : Nat} {Q : Int → yM → Prop} {M : yM} {x1 : Nat} {x2 : Int} {x3 : Int} {x4 : Int} {x5 : Int} {x6 : Int} {wx7 : Option yV} {wx8 : Option yV} (h1 : termSh x1) (h2 : 0 ≤ x6 ∧ x6 < 60) (kt : (ld M (x1 + 1) x6) = 45 → XW kX2_evaluate d (some .int) (wQi Q) 45 [some (.inr (.inr 81)), some (.inr (.inr x1)), some (.inl x2), some (.inl x3), some (.inl x4), some (.inl x5), some (.inl x6), some (.inl (ld M (x1 + 1) x6)), wx8] [] M) (kf : (ld M (x1 + 1) x6) ≠ 45 → XW kX2_evaluate d (some .int) (wQi Q) 38 [some (.inr (.inr 81)), some (.inr (.inr x1)), some (.inl x2), some (.inl x3), some (.inl x4), some (.inl x5), some (.inl x6), some (.inl (ld M (x1 + 1) x6)), wx8] [] M) : XW kX2_evaluate d (some .int) (wQi Q) 22 [some (.inr (.inr 81)), some (.inr (.inr x1)), some (.inl x2), some (.inl x3), some (.inl x4), some (.inl x5), some (.inl x6), wx7, wx8] [] M := by
  refine x_aload_n rfl rfl ?_
  refine x_getR rfl h1.1 rfl ?_
  refine x_iload rfl rfl ?_
  refine x_iaload rfl h1.2 h2 ?_
  refine x_istore rfl (Nat.le_of_ble_eq_true rfl) rfl ?_
  refine x_iload rfl rfl ?_
  refine x_bipush 45 rfl (by decide) ?_
  exact x_icmpeq rfl (rng_ld _ _ _) (by decide) kt kf
theorem uX2_evaluate_38 {d : Nat} {Q : Int → yM → Prop} {M : yM} {x1 : Nat} {x2 : Int} {x3 : Int} {x4 : Int} {x5 : Int} {x6 : Int} {x7 : Int} {wx8 : Option yV} (h1 : -2147483648 ≤ x7 ∧ x7 < 2147483648) (kt : x7 ≠ 126 → XW kX2_evaluate d (some .int) (wQi Q) 104 [some (.inr (.inr 81)), some (.inr (.inr x1)), some (.inl x2), some (.inl x3), some (.inl x4), some (.inl x5), some (.inl x6), some (.inl x7), wx8] [] M) (kf : x7 = 126 → XW kX2_evaluate d (some .int) (wQi Q) 45 [some (.inr (.inr 81)), some (.inr (.inr x1)), some (.inl x2), some (.inl x3), some (.inl x4), some (.inl x5), some (.inl x6), some (.inl x7), wx8] [] M) : XW kX2_evaluate d (some .int) (wQi Q) 38 [some (.inr (.inr 81)), some (.inr (.inr x1)), some (.inl x2), some (.inl x3), some (.inl x4), some (.inl x5), some (.inl x6), some (.inl x7), wx8] [] M := by
  refine x_iload rfl rfl ?_
  refine x_bipush 126 rfl (by decide) ?_
  exact x_icmpne rfl h1 (by decide) kt kf
theorem uX2_evaluate_45 {d : Nat} {Q : Int → yM → Prop} {M : yM} {x1 : Nat} {x2 : Int} {x3 : Int} {x4 : Int} {x5 : Int} {x6 : Int} {x7 : Int} {wx8 : Option yV} (h1 : -2147483648 ≤ x5 ∧ x5 < 2147483648) (kt : x5 ≤ 0 → XW kX2_evaluate d (some .int) (wQi Q) 195 [some (.inr (.inr 81)), some (.inr (.inr x1)), some (.inl x2), some (.inl x3), some (.inl x4), some (.inl x5), some (.inl x6), some (.inl x7), wx8] [] M) (kf : x5 > 0 → XW kX2_evaluate d (some .int) (wQi Q) 50 [some (.inr (.inr 81)), some (.inr (.inr x1)), some (.inl x2), some (.inl x3), some (.inl x4), some (.inl x5), some (.inl x6), some (.inl x7), wx8] [] M) : XW kX2_evaluate d (some .int) (wQi Q) 45 [some (.inr (.inr 81)), some (.inr (.inr x1)), some (.inl x2), some (.inl x3), some (.inl x4), some (.inl x5), some (.inl x6), some (.inl x7), wx8] [] M := by
  refine x_iload rfl rfl ?_
  exact x_ifle rfl h1 kt kf
theorem uX2_evaluate_50 {d : Nat} {Q : Int → yM → Prop} {M : yM} {x1 : Nat} {x2 : Int} {x3 : Int} {x4 : Int} {x5 : Int} {x6 : Int} {x7 : Int} {wx8 : Option yV} (h1 : 0 ≤ (x5 - 1) ∧ (x5 - 1) < 60) (h2 : -2147483648 ≤ x7 ∧ x7 < 2147483648) (kt : x7 ≠ 45 → XW kX2_evaluate d (some .int) (wQi Q) 91 [some (.inr (.inr 81)), some (.inr (.inr x1)), some (.inl x2), some (.inl x3), some (.inl x4), some (.inl x5), some (.inl x6), some (.inl x7), some (.inl (ld M 82 (x5 - 1)))] [.inl (x5 - 1), .inr (.inr 82)] M) (kf : x7 = 45 → XW kX2_evaluate d (some .int) (wQi Q) 76 [some (.inr (.inr 81)), some (.inr (.inr x1)), some (.inl x2), some (.inl x3), some (.inl x4), some (.inl x5), some (.inl x6), some (.inl x7), some (.inl (ld M 82 (x5 - 1)))] [.inl (x5 - 1), .inr (.inr 82)] M) : XW kX2_evaluate d (some .int) (wQi Q) 50 [some (.inr (.inr 81)), some (.inr (.inr x1)), some (.inl x2), some (.inl x3), some (.inl x4), some (.inl x5), some (.inl x6), some (.inl x7), wx8] [] M := by
  refine x_aload_n rfl rfl ?_
  refine x_getR rfl sh81 rfl ?_
  refine x_iload rfl rfl ?_
  refine x_iconst 1 rfl (by decide) ?_
  refine x_isub rfl ?_
  refine x_iaload rfl ⟨sh82, Nat.le_of_ble_eq_true rfl⟩ h1 ?_
  refine x_istore rfl (Nat.le_of_ble_eq_true rfl) rfl ?_
  refine x_aload_n rfl rfl ?_
  refine x_getR rfl sh81 rfl ?_
  refine x_iload rfl rfl ?_
  refine x_iconst 1 rfl (by decide) ?_
  refine x_isub rfl ?_
  refine x_iload rfl rfl ?_
  refine x_bipush 45 rfl (by decide) ?_
  exact x_icmpne rfl h2 (by decide) kt kf
theorem uX2_evaluate_76 {d : Nat} {Q : Int → yM → Prop} {M : yM} {x1 : Nat} {x2 : Int} {x3 : Int} {x4 : Int} {x5 : Int} {x6 : Int} {x7 : Int} {x8 : Int} {s0 : Int} (k : XCi d 60 [.inr (.inr 1)] M (fun v M' => XW kX2_evaluate (d + 1) (some .int) (wQi Q) 83 [some (.inr (.inr 81)), some (.inr (.inr x1)), some (.inl x2), some (.inl x3), some (.inl x4), some (.inl x5), some (.inl x6), some (.inl x7), some (.inl x8)] [.inl v, .inl s0, .inr (.inr 82)] M')) : XW kX2_evaluate (d + 1) (some .int) (wQi Q) 76 [some (.inr (.inr 81)), some (.inr (.inr x1)), some (.inl x2), some (.inl x3), some (.inl x4), some (.inl x5), some (.inl x6), some (.inl x7), some (.inl x8)] [.inl s0, .inr (.inr 82)] M := by
  refine x_aload_n rfl rfl ?_
  refine x_getR rfl sh81 rfl ?_
  exact x_calli (args := [.inr (.inr 1)]) rfl rfl rfl k
theorem uX2_evaluate_83 {d : Nat} {Q : Int → yM → Prop} {M : yM} {x1 : Nat} {x2 : Int} {x3 : Int} {x4 : Int} {x5 : Int} {x6 : Int} {x7 : Int} {x8 : Int} {s0 : Int} {s1 : Int} (k : XW kX2_evaluate d (some .int) (wQi Q) 100 [some (.inr (.inr 81)), some (.inr (.inr x1)), some (.inl x2), some (.inl x3), some (.inl x4), some (.inl x5), some (.inl x6), some (.inl x7), some (.inl x8)] [.inl (yand s0 (yxor x8 (-1))), .inl s1, .inr (.inr 82)] M) : XW kX2_evaluate d (some .int) (wQi Q) 83 [some (.inr (.inr 81)), some (.inr (.inr x1)), some (.inl x2), some (.inl x3), some (.inl x4), some (.inl x5), some (.inl x6), some (.inl x7), some (.inl x8)] [.inl s0, .inl s1, .inr (.inr 82)] M := by
  refine x_iload rfl rfl ?_
  refine x_iconst (-1) rfl (by decide) ?_
  refine x_ixor rfl ?_
  refine x_iand rfl ?_
  exact x_goto rfl k
theorem uX2_evaluate_91 {d : Nat} {Q : Int → yM → Prop} {M : yM} {x1 : Nat} {x2 : Int} {x3 : Int} {x4 : Int} {x5 : Int} {x6 : Int} {x7 : Int} {x8 : Int} {s0 : Int} (k : XCi d 70 [.inr (.inr 1), .inl x8] M (fun v M' => XW kX2_evaluate (d + 1) (some .int) (wQi Q) 100 [some (.inr (.inr 81)), some (.inr (.inr x1)), some (.inl x2), some (.inl x3), some (.inl x4), some (.inl x5), some (.inl x6), some (.inl x7), some (.inl x8)] [.inl v, .inl s0, .inr (.inr 82)] M')) : XW kX2_evaluate (d + 1) (some .int) (wQi Q) 91 [some (.inr (.inr 81)), some (.inr (.inr x1)), some (.inl x2), some (.inl x3), some (.inl x4), some (.inl x5), some (.inl x6), some (.inl x7), some (.inl x8)] [.inl s0, .inr (.inr 82)] M := by
  refine x_aload_n rfl rfl ?_
  refine x_getR rfl sh81 rfl ?_
  refine x_iload rfl rfl ?_
  exact x_calli (args := [.inr (.inr 1), .inl x8]) rfl rfl rfl k
theorem uX2_evaluate_100 {d : Nat} {Q : Int → yM → Prop} {M : yM} {x1 : Nat} {x2 : Int} {x3 : Int} {x4 : Int} {x5 : Int} {x6 : Int} {x7 : Int} {x8 : Int} {s0 : Int} {s1 : Int} (h1 : 0 ≤ s1 ∧ s1 < 60) (k : ∀ M', M' = (put M 82 s1 s0) → XW kX2_evaluate d (some .int) (wQi Q) 101 [some (.inr (.inr 81)), some (.inr (.inr x1)), some (.inl x2), some (.inl x3), some (.inl x4), some (.inl x5), some (.inl x6), some (.inl x7), some (.inl x8)] [] M') : XW kX2_evaluate d (some .int) (wQi Q) 100 [some (.inr (.inr 81)), some (.inr (.inr x1)), some (.inl x2), some (.inl x3), some (.inl x4), some (.inl x5), some (.inl x6), some (.inl x7), some (.inl x8)] [.inl s0, .inl s1, .inr (.inr 82)] M := by
  refine x_iastore rfl ⟨sh82, Nat.le_of_ble_eq_true rfl⟩ h1  ?_
  exact k _ rfl
theorem uX2_evaluate_101 {d : Nat} {Q : Int → yM → Prop} {M : yM} {x1 : Nat} {x2 : Int} {x3 : Int} {x4 : Int} {x5 : Int} {x6 : Int} {x7 : Int} {x8 : Int} (k : XW kX2_evaluate d (some .int) (wQi Q) 195 [some (.inr (.inr 81)), some (.inr (.inr x1)), some (.inl x2), some (.inl x3), some (.inl x4), some (.inl x5), some (.inl x6), some (.inl x7), some (.inl x8)] [] M) : XW kX2_evaluate d (some .int) (wQi Q) 101 [some (.inr (.inr 81)), some (.inr (.inr x1)), some (.inl x2), some (.inl x3), some (.inl x4), some (.inl x5), some (.inl x6), some (.inl x7), some (.inl x8)] [] M := by
  exact x_goto rfl k
theorem uX2_evaluate_104 {d : Nat} {Q : Int → yM → Prop} {M : yM} {x1 : Nat} {x2 : Int} {x3 : Int} {x4 : Int} {x5 : Int} {x6 : Int} {x7 : Int} {wx8 : Option yV} (h1 : -2147483648 ≤ x7 ∧ x7 < 2147483648) (kt : x7 = 43 → XW kX2_evaluate d (some .int) (wQi Q) 125 [some (.inr (.inr 81)), some (.inr (.inr x1)), some (.inl x2), some (.inl x3), some (.inl x4), some (.inl x5), some (.inl x6), some (.inl x7), wx8] [] M) (kf : x7 ≠ 43 → XW kX2_evaluate d (some .int) (wQi Q) 111 [some (.inr (.inr 81)), some (.inr (.inr x1)), some (.inl x2), some (.inl x3), some (.inl x4), some (.inl x5), some (.inl x6), some (.inl x7), wx8] [] M) : XW kX2_evaluate d (some .int) (wQi Q) 104 [some (.inr (.inr 81)), some (.inr (.inr x1)), some (.inl x2), some (.inl x3), some (.inl x4), some (.inl x5), some (.inl x6), some (.inl x7), wx8] [] M := by
  refine x_iload rfl rfl ?_
  refine x_bipush 43 rfl (by decide) ?_
  exact x_icmpeq rfl h1 (by decide) kt kf
theorem uX2_evaluate_111 {d : Nat} {Q : Int → yM → Prop} {M : yM} {x1 : Nat} {x2 : Int} {x3 : Int} {x4 : Int} {x5 : Int} {x6 : Int} {x7 : Int} {wx8 : Option yV} (h1 : -2147483648 ≤ x7 ∧ x7 < 2147483648) (kt : x7 = 38 → XW kX2_evaluate d (some .int) (wQi Q) 125 [some (.inr (.inr 81)), some (.inr (.inr x1)), some (.inl x2), some (.inl x3), some (.inl x4), some (.inl x5), some (.inl x6), some (.inl x7), wx8] [] M) (kf : x7 ≠ 38 → XW kX2_evaluate d (some .int) (wQi Q) 118 [some (.inr (.inr 81)), some (.inr (.inr x1)), some (.inl x2), some (.inl x3), some (.inl x4), some (.inl x5), some (.inl x6), some (.inl x7), wx8] [] M) : XW kX2_evaluate d (some .int) (wQi Q) 111 [some (.inr (.inr 81)), some (.inr (.inr x1)), some (.inl x2), some (.inl x3), some (.inl x4), some (.inl x5), some (.inl x6), some (.inl x7), wx8] [] M := by
  refine x_iload rfl rfl ?_
  refine x_bipush 38 rfl (by decide) ?_
  exact x_icmpeq rfl h1 (by decide) kt kf
theorem uX2_evaluate_118 {d : Nat} {Q : Int → yM → Prop} {M : yM} {x1 : Nat} {x2 : Int} {x3 : Int} {x4 : Int} {x5 : Int} {x6 : Int} {x7 : Int} {wx8 : Option yV} (h1 : -2147483648 ≤ x7 ∧ x7 < 2147483648) (kt : x7 ≠ 59 → XW kX2_evaluate d (some .int) (wQi Q) 168 [some (.inr (.inr 81)), some (.inr (.inr x1)), some (.inl x2), some (.inl x3), some (.inl x4), some (.inl x5), some (.inl x6), some (.inl x7), wx8] [] M) (kf : x7 = 59 → XW kX2_evaluate d (some .int) (wQi Q) 125 [some (.inr (.inr 81)), some (.inr (.inr x1)), some (.inl x2), some (.inl x3), some (.inl x4), some (.inl x5), some (.inl x6), some (.inl x7), wx8] [] M) : XW kX2_evaluate d (some .int) (wQi Q) 118 [some (.inr (.inr 81)), some (.inr (.inr x1)), some (.inl x2), some (.inl x3), some (.inl x4), some (.inl x5), some (.inl x6), some (.inl x7), wx8] [] M := by
  refine x_iload rfl rfl ?_
  refine x_bipush 59 rfl (by decide) ?_
  exact x_icmpne rfl h1 (by decide) kt kf
theorem uX2_evaluate_125 {d : Nat} {Q : Int → yM → Prop} {M : yM} {x1 : Nat} {x2 : Int} {x3 : Int} {x4 : Int} {x5 : Int} {x6 : Int} {x7 : Int} {wx8 : Option yV} (h1 : -2147483648 ≤ x5 ∧ x5 < 2147483648) (kt : x5 ≤ 1 → XW kX2_evaluate d (some .int) (wQi Q) 195 [some (.inr (.inr 81)), some (.inr (.inr x1)), some (.inl x2), some (.inl x3), some (.inl x4), some (.inl x5), some (.inl x6), some (.inl x7), wx8] [] M) (kf : x5 > 1 → XW kX2_evaluate d (some .int) (wQi Q) 131 [some (.inr (.inr 81)), some (.inr (.inr x1)), some (.inl x2), some (.inl x3), some (.inl x4), some (.inl x5), some (.inl x6), some (.inl x7), wx8] [] M) : XW kX2_evaluate d (some .int) (wQi Q) 125 [some (.inr (.inr 81)), some (.inr (.inr x1)), some (.inl x2), some (.inl x3), some (.inl x4), some (.inl x5), some (.inl x6), some (.inl x7), wx8] [] M := by
  refine x_iload rfl rfl ?_
  refine x_iconst 1 rfl (by decide) ?_
  exact x_icmple rfl h1 (by decide) kt kf
theorem uX2_evaluate_131 {d : Nat} {Q : Int → yM → Prop} {M : yM} {x1 : Nat} {x2 : Int} {x3 : Int} {x4 : Int} {x5 : Int} {x6 : Int} {x7 : Int} {wx8 : Option yV} (h1 : 0 ≤ ((x5 + (-1)) - 1) ∧ ((x5 + (-1)) - 1) < 60) (h2 : 0 ≤ (x5 + (-1)) ∧ (x5 + (-1)) < 60) (k : XCi d 16 [.inr (.inr 81), .inl x7, .inl (ld M 82 ((x5 + (-1)) - 1)), .inl (ld M 82 (x5 + (-1)))] M (fun v M' => XW kX2_evaluate (d + 1) (some .int) (wQi Q) 164 [some (.inr (.inr 81)), some (.inr (.inr x1)), some (.inl x2), some (.inl x3), some (.inl x4), some (.inl (x5 + (-1))), some (.inl x6), some (.inl x7), wx8] [.inl v, .inl ((x5 + (-1)) - 1), .inr (.inr 82)] M')) : XW kX2_evaluate (d + 1) (some .int) (wQi Q) 131 [some (.inr (.inr 81)), some (.inr (.inr x1)), some (.inl x2), some (.inl x3), some (.inl x4), some (.inl x5), some (.inl x6), some (.inl x7), wx8] [] M := by
  refine x_iinc (-1) rfl (by decide) rfl rfl ?_
  refine x_aload_n rfl rfl ?_
  refine x_getR rfl sh81 rfl ?_
  refine x_iload rfl rfl ?_
  refine x_iconst 1 rfl (by decide) ?_
  refine x_isub rfl ?_
  refine x_aload_n rfl rfl ?_
  refine x_iload rfl rfl ?_
  refine x_aload_n rfl rfl ?_
  refine x_getR rfl sh81 rfl ?_
  refine x_iload rfl rfl ?_
  refine x_iconst 1 rfl (by decide) ?_
  refine x_isub rfl ?_
  refine x_iaload rfl ⟨sh82, Nat.le_of_ble_eq_true rfl⟩ h1 ?_
  refine x_aload_n rfl rfl ?_
  refine x_getR rfl sh81 rfl ?_
  refine x_iload rfl rfl ?_
  refine x_iaload rfl ⟨sh82, Nat.le_of_ble_eq_true rfl⟩ h2 ?_
  exact x_calli (args := [.inr (.inr 81), .inl x7, .inl (ld M 82 ((x5 + (-1)) - 1)), .inl (ld M 82 (x5 + (-1)))]) rfl rfl rfl k
theorem uX2_evaluate_164 {d : Nat} {Q : Int → yM → Prop} {M : yM} {x1 : Nat} {x2 : Int} {x3 : Int} {x4 : Int} {x5 : Int} {x6 : Int} {x7 : Int} {wx8 : Option yV} {s0 : Int} {s1 : Int} (h1 : 0 ≤ s1 ∧ s1 < 60) (k : ∀ M', M' = (put M 82 s1 s0) → XW kX2_evaluate d (some .int) (wQi Q) 165 [some (.inr (.inr 81)), some (.inr (.inr x1)), some (.inl x2), some (.inl x3), some (.inl x4), some (.inl x5), some (.inl x6), some (.inl x7), wx8] [] M') : XW kX2_evaluate d (some .int) (wQi Q) 164 [some (.inr (.inr 81)), some (.inr (.inr x1)), some (.inl x2), some (.inl x3), some (.inl x4), some (.inl x5), some (.inl x6), some (.inl x7), wx8] [.inl s0, .inl s1, .inr (.inr 82)] M := by
  refine x_iastore rfl ⟨sh82, Nat.le_of_ble_eq_true rfl⟩ h1  ?_
  exact k _ rfl
theorem uX2_evaluate_165 {d : Nat} {Q : Int → yM → Prop} {M : yM} {x1 : Nat} {x2 : Int} {x3 : Int} {x4 : Int} {x5 : Int} {x6 : Int} {x7 : Int} {wx8 : Option yV} (k : XW kX2_evaluate d (some .int) (wQi Q) 195 [some (.inr (.inr 81)), some (.inr (.inr x1)), some (.inl x2), some (.inl x3), some (.inl x4), some (.inl x5), some (.inl x6), some (.inl x7), wx8] [] M) : XW kX2_evaluate d (some .int) (wQi Q) 165 [some (.inr (.inr 81)), some (.inr (.inr x1)), some (.inl x2), some (.inl x3), some (.inl x4), some (.inl x5), some (.inl x6), some (.inl x7), wx8] [] M := by
  exact x_goto rfl k
theorem uX2_evaluate_168 {d : Nat} {Q : Int → yM → Prop} {M : yM} {x1 : Nat} {x2 : Int} {x3 : Int} {x4 : Int} {x5 : Int} {x6 : Int} {x7 : Int} {wx8 : Option yV} (h1 : -2147483648 ≤ x5 ∧ x5 < 2147483648) (kt : x5 ≥ 60 → XW kX2_evaluate d (some .int) (wQi Q) 195 [some (.inr (.inr 81)), some (.inr (.inr x1)), some (.inl x2), some (.inl x3), some (.inl x4), some (.inl x5), some (.inl x6), some (.inl x7), wx8] [] M) (kf : x5 < 60 → XW kX2_evaluate d (some .int) (wQi Q) 175 [some (.inr (.inr 81)), some (.inr (.inr x1)), some (.inl x2), some (.inl x3), some (.inl x4), some (.inl x5), some (.inl x6), some (.inl x7), wx8] [] M) : XW kX2_evaluate d (some .int) (wQi Q) 168 [some (.inr (.inr 81)), some (.inr (.inr x1)), some (.inl x2), some (.inl x3), some (.inl x4), some (.inl x5), some (.inl x6), some (.inl x7), wx8] [] M := by
  refine x_iload rfl rfl ?_
  refine x_bipush 60 rfl (by decide) ?_
  exact x_icmpge rfl h1 (by decide) kt kf
theorem uX2_evaluate_175 {d : Nat} {Q : Int → yM → Prop} {M : yM} {x1 : Nat} {x2 : Int} {x3 : Int} {x4 : Int} {x5 : Int} {x6 : Int} {x7 : Int} {wx8 : Option yV} (k : XCi d 17 [.inr (.inr 81), .inl x7, .inl x2, .inl x3, .inl x4] M (fun v M' => XW kX2_evaluate (d + 1) (some .int) (wQi Q) 191 [some (.inr (.inr 81)), some (.inr (.inr x1)), some (.inl x2), some (.inl x3), some (.inl x4), some (.inl x5), some (.inl x6), some (.inl x7), wx8] [.inl v, .inl x5, .inr (.inr 82)] M')) : XW kX2_evaluate (d + 1) (some .int) (wQi Q) 175 [some (.inr (.inr 81)), some (.inr (.inr x1)), some (.inl x2), some (.inl x3), some (.inl x4), some (.inl x5), some (.inl x6), some (.inl x7), wx8] [] M := by
  refine x_aload_n rfl rfl ?_
  refine x_getR rfl sh81 rfl ?_
  refine x_iload rfl rfl ?_
  refine x_aload_n rfl rfl ?_
  refine x_iload rfl rfl ?_
  refine x_iload_n rfl rfl ?_
  refine x_iload_n rfl rfl ?_
  refine x_iload rfl rfl ?_
  exact x_calli (args := [.inr (.inr 81), .inl x7, .inl x2, .inl x3, .inl x4]) rfl rfl rfl k
theorem uX2_evaluate_191 {d : Nat} {Q : Int → yM → Prop} {M : yM} {x1 : Nat} {x2 : Int} {x3 : Int} {x4 : Int} {x5 : Int} {x6 : Int} {x7 : Int} {wx8 : Option yV} {s0 : Int} {s1 : Int} (h1 : 0 ≤ s1 ∧ s1 < 60) (k : ∀ M', M' = (put M 82 s1 s0) → XW kX2_evaluate d (some .int) (wQi Q) 192 [some (.inr (.inr 81)), some (.inr (.inr x1)), some (.inl x2), some (.inl x3), some (.inl x4), some (.inl x5), some (.inl x6), some (.inl x7), wx8] [] M') : XW kX2_evaluate d (some .int) (wQi Q) 191 [some (.inr (.inr 81)), some (.inr (.inr x1)), some (.inl x2), some (.inl x3), some (.inl x4), some (.inl x5), some (.inl x6), some (.inl x7), wx8] [.inl s0, .inl s1, .inr (.inr 82)] M := by
  refine x_iastore rfl ⟨sh82, Nat.le_of_ble_eq_true rfl⟩ h1  ?_
  exact k _ rfl
theorem uX2_evaluate_192 {d : Nat} {Q : Int → yM → Prop} {M : yM} {x1 : Nat} {x2 : Int} {x3 : Int} {x4 : Int} {x5 : Int} {x6 : Int} {x7 : Int} {wx8 : Option yV} (k : XW kX2_evaluate d (some .int) (wQi Q) 195 [some (.inr (.inr 81)), some (.inr (.inr x1)), some (.inl x2), some (.inl x3), some (.inl x4), some (.inl (x5 + 1)), some (.inl x6), some (.inl x7), wx8] [] M) : XW kX2_evaluate d (some .int) (wQi Q) 192 [some (.inr (.inr 81)), some (.inr (.inr x1)), some (.inl x2), some (.inl x3), some (.inl x4), some (.inl x5), some (.inl x6), some (.inl x7), wx8] [] M := by
  refine x_iinc 1 rfl (by decide) rfl rfl ?_
  exact k
theorem uX2_evaluate_195 {d : Nat} {Q : Int → yM → Prop} {M : yM} {x1 : Nat} {x2 : Int} {x3 : Int} {x4 : Int} {x5 : Int} {x6 : Int} {x7 : Int} {wx8 : Option yV} (k : XW kX2_evaluate d (some .int) (wQi Q) 6 [some (.inr (.inr 81)), some (.inr (.inr x1)), some (.inl x2), some (.inl x3), some (.inl x4), some (.inl x5), some (.inl (x6 + 1)), some (.inl x7), wx8] [] M) : XW kX2_evaluate d (some .int) (wQi Q) 195 [some (.inr (.inr 81)), some (.inr (.inr x1)), some (.inl x2), some (.inl x3), some (.inl x4), some (.inl x5), some (.inl x6), some (.inl x7), wx8] [] M := by
  refine x_iinc 1 rfl (by decide) rfl rfl ?_
  exact x_goto rfl k
theorem uX2_evaluate_201 {d : Nat} {Q : Int → yM → Prop} {M : yM} {x1 : Nat} {x2 : Int} {x3 : Int} {x4 : Int} {x5 : Int} {x6 : Int} {wx7 : Option yV} {wx8 : Option yV} (h1 : -2147483648 ≤ x5 ∧ x5 < 2147483648) (kt : x5 ≤ 0 → XW kX2_evaluate d (some .int) (wQi Q) 215 [some (.inr (.inr 81)), some (.inr (.inr x1)), some (.inl x2), some (.inl x3), some (.inl x4), some (.inl x5), some (.inl x6), wx7, wx8] [] M) (kf : x5 > 0 → XW kX2_evaluate d (some .int) (wQi Q) 206 [some (.inr (.inr 81)), some (.inr (.inr x1)), some (.inl x2), some (.inl x3), some (.inl x4), some (.inl x5), some (.inl x6), wx7, wx8] [] M) : XW kX2_evaluate d (some .int) (wQi Q) 201 [some (.inr (.inr 81)), some (.inr (.inr x1)), some (.inl x2), some (.inl x3), some (.inl x4), some (.inl x5), some (.inl x6), wx7, wx8] [] M := by
  refine x_iload rfl rfl ?_
  exact x_ifle rfl h1 kt kf
theorem uX2_evaluate_206 {d : Nat} {Q : Int → yM → Prop} {M : yM} {x1 : Nat} {x2 : Int} {x3 : Int} {x4 : Int} {x5 : Int} {x6 : Int} {wx7 : Option yV} {wx8 : Option yV} (k : XW kX2_evaluate d (some .int) (wQi Q) 216 [some (.inr (.inr 81)), some (.inr (.inr x1)), some (.inl x2), some (.inl x3), some (.inl x4), some (.inl x5), some (.inl x6), wx7, wx8] [.inl (ld M 82 0)] M) : XW kX2_evaluate d (some .int) (wQi Q) 206 [some (.inr (.inr 81)), some (.inr (.inr x1)), some (.inl x2), some (.inl x3), some (.inl x4), some (.inl x5), some (.inl x6), wx7, wx8] [] M := by
  refine x_aload_n rfl rfl ?_
  refine x_getR rfl sh81 rfl ?_
  refine x_iconst 0 rfl (by decide) ?_
  refine x_iaload rfl ⟨sh82, Nat.le_of_ble_eq_true rfl⟩ (by decide) ?_
  exact x_goto rfl k
theorem uX2_evaluate_215 {d : Nat} {Q : Int → yM → Prop} {M : yM} {x1 : Nat} {x2 : Int} {x3 : Int} {x4 : Int} {x5 : Int} {x6 : Int} {wx7 : Option yV} {wx8 : Option yV} (k : XW kX2_evaluate d (some .int) (wQi Q) 216 [some (.inr (.inr 81)), some (.inr (.inr x1)), some (.inl x2), some (.inl x3), some (.inl x4), some (.inl x5), some (.inl x6), wx7, wx8] [.inl 0] M) : XW kX2_evaluate d (some .int) (wQi Q) 215 [some (.inr (.inr 81)), some (.inr (.inr x1)), some (.inl x2), some (.inl x3), some (.inl x4), some (.inl x5), some (.inl x6), wx7, wx8] [] M := by
  refine x_iconst 0 rfl (by decide) ?_
  exact k
theorem uX2_evaluate_216 {d : Nat} {Q : Int → yM → Prop} {M : yM} {x1 : Nat} {x2 : Int} {x3 : Int} {x4 : Int} {x5 : Int} {x6 : Int} {wx7 : Option yV} {wx8 : Option yV} {s0 : Int} (k : Q s0 M) : XW kX2_evaluate d (some .int) (wQi Q) 216 [some (.inr (.inr 81)), some (.inr (.inr x1)), some (.inl x2), some (.inl x3), some (.inl x4), some (.inl x5), some (.inl x6), wx7, wx8] [.inl s0] M := by
  exact x_ireturn rfl k
theorem eX2_combined {d : Nat} {Q : Int → yM → Prop} {M : yM} {x1 : Int} {x2 : Int} {x3 : Int}  (h : XW kX2_combined d (some .int) (wQi Q) 0 [some (.inr (.inr 81)), some (.inl x1), some (.inl x2), some (.inl x3)] [] M) : XCi d 16 [.inr (.inr 81), .inl x1, .inl x2, .inl x3] M Q :=
  XC.ofW (Mm := (yX2_combined, cX2_combined, 4, (some .int), 3, kX2_combined)) rfl (rcv_ok sh81) rfl rfl h
theorem uX2_combined_0 {d : Nat} {Q : Int → yM → Prop} {M : yM} {x1 : Int} {x2 : Int} {x3 : Int} (h1 : -2147483648 ≤ x1 ∧ x1 < 2147483648) (kt : x1 ≠ 59 → XW kX2_combined d (some .int) (wQi Q) 16 [some (.inr (.inr 81)), some (.inl x1), some (.inl x2), some (.inl x3)] [] M) (kf : x1 = 59 → XW kX2_combined d (some .int) (wQi Q) 6 [some (.inr (.inr 81)), some (.inl x1), some (.inl x2), some (.inl x3)] [] M) : XW kX2_combined d (some .int) (wQi Q) 0 [some (.inr (.inr 81)), some (.inl x1), some (.inl x2), some (.inl x3)] [] M := by
  refine x_iload_n rfl rfl ?_
  refine x_bipush 59 rfl (by decide) ?_
  exact x_icmpne rfl h1 (by decide) kt kf
theorem uX2_combined_6 {d : Nat} {Q : Int → yM → Prop} {M : yM} {x1 : Int} {x2 : Int} {x3 : Int} (k : XCi d 71 [.inr (.inr 1), .inl x2, .inl x3] M (fun v M' => XW kX2_combined (d + 1) (some .int) (wQi Q) 15 [some (.inr (.inr 81)), some (.inl x1), some (.inl x2), some (.inl x3)] [.inl v] M')) : XW kX2_combined (d + 1) (some .int) (wQi Q) 6 [some (.inr (.inr 81)), some (.inl x1), some (.inl x2), some (.inl x3)] [] M := by
  refine x_aload_n rfl rfl ?_
  refine x_getR rfl sh81 rfl ?_
  refine x_iload_n rfl rfl ?_
  refine x_iload_n rfl rfl ?_
  exact x_calli (args := [.inr (.inr 1), .inl x2, .inl x3]) rfl rfl rfl k
theorem uX2_combined_15 {d : Nat} {Q : Int → yM → Prop} {M : yM} {x1 : Int} {x2 : Int} {x3 : Int} {s0 : Int} (k : Q s0 M) : XW kX2_combined d (some .int) (wQi Q) 15 [some (.inr (.inr 81)), some (.inl x1), some (.inl x2), some (.inl x3)] [.inl s0] M := by
  exact x_ireturn rfl k
theorem uX2_combined_16 {d : Nat} {Q : Int → yM → Prop} {M : yM} {x1 : Int} {x2 : Int} {x3 : Int} (h1 : -2147483648 ≤ x1 ∧ x1 < 2147483648) (kt : x1 ≠ 43 → XW kX2_combined d (some .int) (wQi Q) 28 [some (.inr (.inr 81)), some (.inl x1), some (.inl x2), some (.inl x3)] [] M) (kf : x1 = 43 → XW kX2_combined d (some .int) (wQi Q) 22 [some (.inr (.inr 81)), some (.inl x1), some (.inl x2), some (.inl x3)] [] M) : XW kX2_combined d (some .int) (wQi Q) 16 [some (.inr (.inr 81)), some (.inl x1), some (.inl x2), some (.inl x3)] [] M := by
  refine x_iload_n rfl rfl ?_
  refine x_bipush 43 rfl (by decide) ?_
  exact x_icmpne rfl h1 (by decide) kt kf
theorem uX2_combined_22 {d : Nat} {Q : Int → yM → Prop} {M : yM} {x1 : Int} {x2 : Int} {x3 : Int} (k : XW kX2_combined d (some .int) (wQi Q) 31 [some (.inr (.inr 81)), some (.inl x1), some (.inl x2), some (.inl x3)] [.inl (yor x2 x3)] M) : XW kX2_combined d (some .int) (wQi Q) 22 [some (.inr (.inr 81)), some (.inl x1), some (.inl x2), some (.inl x3)] [] M := by
  refine x_iload_n rfl rfl ?_
  refine x_iload_n rfl rfl ?_
  refine x_ior rfl ?_
  exact x_goto rfl k
theorem uX2_combined_28 {d : Nat} {Q : Int → yM → Prop} {M : yM} {x1 : Int} {x2 : Int} {x3 : Int} (k : XW kX2_combined d (some .int) (wQi Q) 31 [some (.inr (.inr 81)), some (.inl x1), some (.inl x2), some (.inl x3)] [.inl (yand x2 x3)] M) : XW kX2_combined d (some .int) (wQi Q) 28 [some (.inr (.inr 81)), some (.inl x1), some (.inl x2), some (.inl x3)] [] M := by
  refine x_iload_n rfl rfl ?_
  refine x_iload_n rfl rfl ?_
  refine x_iand rfl ?_
  exact k
theorem uX2_combined_31 {d : Nat} {Q : Int → yM → Prop} {M : yM} {x1 : Int} {x2 : Int} {x3 : Int} {s0 : Int} (k : Q s0 M) : XW kX2_combined d (some .int) (wQi Q) 31 [some (.inr (.inr 81)), some (.inl x1), some (.inl x2), some (.inl x3)] [.inl s0] M := by
  exact x_ireturn rfl k
theorem eX2_leaf {d : Nat} {Q : Int → yM → Prop} {M : yM} {x1 : Int} {x2 : Int} {x3 : Int} {x4 : Int}  (h : XW kX2_leaf d (some .int) (wQi Q) 0 [some (.inr (.inr 81)), some (.inl x1), some (.inl x2), some (.inl x3), some (.inl x4)] [] M) : XCi d 17 [.inr (.inr 81), .inl x1, .inl x2, .inl x3, .inl x4] M Q :=
  XC.ofW (Mm := (yX2_leaf, cX2_leaf, 5, (some .int), 3, kX2_leaf)) rfl (rcv_ok sh81) rfl rfl h
theorem uX2_leaf_0 {d : Nat} {Q : Int → yM → Prop} {M : yM} {x1 : Int} {x2 : Int} {x3 : Int} {x4 : Int} (h1 : -2147483648 ≤ x1 ∧ x1 < 2147483648) (c0 : x1 = 48 → XW kX2_leaf d (some .int) (wQi Q) 52 [some (.inr (.inr 81)), some (.inl x1), some (.inl x2), some (.inl x3), some (.inl x4)] [] M) (c1 : x1 = 49 → XW kX2_leaf d (some .int) (wQi Q) 54 [some (.inr (.inr 81)), some (.inl x1), some (.inl x2), some (.inl x3), some (.inl x4)] [] M) (c2 : x1 = 120 → XW kX2_leaf d (some .int) (wQi Q) 62 [some (.inr (.inr 81)), some (.inl x1), some (.inl x2), some (.inl x3), some (.inl x4)] [] M) (c3 : x1 = 121 → XW kX2_leaf d (some .int) (wQi Q) 64 [some (.inr (.inr 81)), some (.inl x1), some (.inl x2), some (.inl x3), some (.inl x4)] [] M) (c4 : x1 = 122 → XW kX2_leaf d (some .int) (wQi Q) 66 [some (.inr (.inr 81)), some (.inl x1), some (.inl x2), some (.inl x3), some (.inl x4)] [] M) (df : x1 ≠ 48 → x1 ≠ 49 → x1 ≠ 120 → x1 ≠ 121 → x1 ≠ 122 → XW kX2_leaf d (some .int) (wQi Q) 69 [some (.inr (.inr 81)), some (.inl x1), some (.inl x2), some (.inl x3), some (.inl x4)] [] M) : XW kX2_leaf d (some .int) (wQi Q) 0 [some (.inr (.inr 81)), some (.inl x1), some (.inl x2), some (.inl x3), some (.inl x4)] [] M := by
  refine x_iload_n rfl rfl ?_
  by_cases q0 : x1 = 48
  · exact x_lsw rfl (by rw [q0]; rfl) (c0 q0)
  by_cases q1 : x1 = 49
  · exact x_lsw rfl (by rw [q1]; rfl) (c1 q1)
  by_cases q2 : x1 = 120
  · exact x_lsw rfl (by rw [q2]; rfl) (c2 q2)
  by_cases q3 : x1 = 121
  · exact x_lsw rfl (by rw [q3]; rfl) (c3 q3)
  by_cases q4 : x1 = 122
  · exact x_lsw rfl (by rw [q4]; rfl) (c4 q4)
  exact x_lsw rfl (by rw [Int32.toInt_ofInt_of_le h1.1 h1.2]; simp [Jvm.Op.lookupswitch.offset, Ne.symm q0, Ne.symm q1, Ne.symm q2, Ne.symm q3, Ne.symm q4]) (df q0 q1 q2 q3 q4)
theorem uX2_leaf_52 {d : Nat} {Q : Int → yM → Prop} {M : yM} {x1 : Int} {x2 : Int} {x3 : Int} {x4 : Int} (k : Q 0 M) : XW kX2_leaf d (some .int) (wQi Q) 52 [some (.inr (.inr 81)), some (.inl x1), some (.inl x2), some (.inl x3), some (.inl x4)] [] M := by
  refine x_iconst 0 rfl (by decide) ?_
  exact x_ireturn rfl k
theorem uX2_leaf_54 {d : Nat} {Q : Int → yM → Prop} {M : yM} {x1 : Int} {x2 : Int} {x3 : Int} {x4 : Int} (k : XCi d 60 [.inr (.inr 1)] M (fun v M' => XW kX2_leaf (d + 1) (some .int) (wQi Q) 61 [some (.inr (.inr 81)), some (.inl x1), some (.inl x2), some (.inl x3), some (.inl x4)] [.inl v] M')) : XW kX2_leaf (d + 1) (some .int) (wQi Q) 54 [some (.inr (.inr 81)), some (.inl x1), some (.inl x2), some (.inl x3), some (.inl x4)] [] M := by
  refine x_aload_n rfl rfl ?_
  refine x_getR rfl sh81 rfl ?_
  exact x_calli (args := [.inr (.inr 1)]) rfl rfl rfl k
theorem uX2_leaf_61 {d : Nat} {Q : Int → yM → Prop} {M : yM} {x1 : Int} {x2 : Int} {x3 : Int} {x4 : Int} {s0 : Int} (k : Q s0 M) : XW kX2_leaf d (some .int) (wQi Q) 61 [some (.inr (.inr 81)), some (.inl x1), some (.inl x2), some (.inl x3), some (.inl x4)] [.inl s0] M := by
  exact x_ireturn rfl k
theorem uX2_leaf_62 {d : Nat} {Q : Int → yM → Prop} {M : yM} {x1 : Int} {x2 : Int} {x3 : Int} {x4 : Int} (k : Q x2 M) : XW kX2_leaf d (some .int) (wQi Q) 62 [some (.inr (.inr 81)), some (.inl x1), some (.inl x2), some (.inl x3), some (.inl x4)] [] M := by
  refine x_iload_n rfl rfl ?_
  exact x_ireturn rfl k
theorem uX2_leaf_64 {d : Nat} {Q : Int → yM → Prop} {M : yM} {x1 : Int} {x2 : Int} {x3 : Int} {x4 : Int} (k : Q x3 M) : XW kX2_leaf d (some .int) (wQi Q) 64 [some (.inr (.inr 81)), some (.inl x1), some (.inl x2), some (.inl x3), some (.inl x4)] [] M := by
  refine x_iload_n rfl rfl ?_
  exact x_ireturn rfl k
theorem uX2_leaf_66 {d : Nat} {Q : Int → yM → Prop} {M : yM} {x1 : Int} {x2 : Int} {x3 : Int} {x4 : Int} (k : Q x4 M) : XW kX2_leaf d (some .int) (wQi Q) 66 [some (.inr (.inr 81)), some (.inl x1), some (.inl x2), some (.inl x3), some (.inl x4)] [] M := by
  refine x_iload rfl rfl ?_
  exact x_ireturn rfl k
theorem uX2_leaf_69 {d : Nat} {Q : Int → yM → Prop} {M : yM} {x1 : Int} {x2 : Int} {x3 : Int} {x4 : Int} (k : Q (yshl 1 (yand (x1 - 97) 7)) M) : XW kX2_leaf d (some .int) (wQi Q) 69 [some (.inr (.inr 81)), some (.inl x1), some (.inl x2), some (.inl x3), some (.inl x4)] [] M := by
  refine x_iconst 1 rfl (by decide) ?_
  refine x_iload_n rfl rfl ?_
  refine x_bipush 97 rfl (by decide) ?_
  refine x_isub rfl ?_
  refine x_bipush 7 rfl (by decide) ?_
  refine x_iand rfl ?_
  refine x_ishl rfl ?_
  exact x_ireturn rfl k
theorem eX2_leastDifference {d : Nat} {Q : Int → yM → Prop} {M : yM} {x1 : Nat} {x2 : Nat}  (h : XW kX2_leastDifference d (some .int) (wQi Q) 0 [some (.inr (.inr 81)), some (.inr (.inr x1)), some (.inr (.inr x2)), none, none, none, none, none, none, none, none] [] M) : XCi d 18 [.inr (.inr 81), .inr (.inr x1), .inr (.inr x2)] M Q :=
  XC.ofW (Mm := (yX2_leastDifference, cX2_leastDifference, 11, (some .int), 3, kX2_leastDifference)) rfl (rcv_ok sh81) rfl rfl h
theorem uX2_leastDifference_0 {d : Nat} {Q : Int → yM → Prop} {M : yM} {x1 : Nat} {x2 : Nat} (h1 : termSh x1) (h2 : termSh x2) (k : XCi d 60 [.inr (.inr 1)] M (fun v M' => XW kX2_leastDifference (d + 1) (some .int) (wQi Q) 17 [some (.inr (.inr 81)), some (.inr (.inr x1)), some (.inr (.inr x2)), some (.inl (yor (ld M x1 2) (ld M x2 2))), none, none, none, none, none, none, none] [.inl v] M')) : XW kX2_leastDifference (d + 1) (some .int) (wQi Q) 0 [some (.inr (.inr 81)), some (.inr (.inr x1)), some (.inr (.inr x2)), none, none, none, none, none, none, none, none] [] M := by
  refine x_aload_n rfl rfl ?_
  refine x_getI rfl h1.1 rfl ?_
  refine x_aload_n rfl rfl ?_
  refine x_getI rfl h2.1 rfl ?_
  refine x_ior rfl ?_
  refine x_istore_n rfl (Nat.le_of_ble_eq_true rfl) rfl ?_
  refine x_aload_n rfl rfl ?_
  refine x_getR rfl sh81 rfl ?_
  exact x_calli (args := [.inr (.inr 1)]) rfl rfl rfl k
theorem uX2_leastDifference_17 {d : Nat} {Q : Int → yM → Prop} {M : yM} {x1 : Nat} {x2 : Nat} {x3 : Int} {s0 : Int} (kt : (yand x3 1) = 0 → XW kX2_leastDifference d (some .int) (wQi Q) 30 [some (.inr (.inr 81)), some (.inr (.inr x1)), some (.inr (.inr x2)), some (.inl x3), some (.inl s0), none, none, none, none, none, none] [] M) (kf : (yand x3 1) ≠ 0 → XW kX2_leastDifference d (some .int) (wQi Q) 25 [some (.inr (.inr 81)), some (.inr (.inr x1)), some (.inr (.inr x2)), some (.inl x3), some (.inl s0), none, none, none, none, none, none] [] M) : XW kX2_leastDifference d (some .int) (wQi Q) 17 [some (.inr (.inr 81)), some (.inr (.inr x1)), some (.inr (.inr x2)), some (.inl x3), none, none, none, none, none, none, none] [.inl s0] M := by
  refine x_istore rfl (Nat.le_of_ble_eq_true rfl) rfl ?_
  refine x_iload_n rfl rfl ?_
  refine x_iconst 1 rfl (by decide) ?_
  refine x_iand rfl ?_
  exact x_ifeq rfl (rng_yand _ _) kt kf
theorem uX2_leastDifference_25 {d : Nat} {Q : Int → yM → Prop} {M : yM} {x1 : Nat} {x2 : Nat} {x3 : Int} {x4 : Int} (k : XW kX2_leastDifference d (some .int) (wQi Q) 31 [some (.inr (.inr 81)), some (.inr (.inr x1)), some (.inr (.inr x2)), some (.inl x3), some (.inl x4), none, none, none, none, none, none] [.inl x4] M) : XW kX2_leastDifference d (some .int) (wQi Q) 25 [some (.inr (.inr 81)), some (.inr (.inr x1)), some (.inr (.inr x2)), some (.inl x3), some (.inl x4), none, none, none, none, none, none] [] M := by
  refine x_iload rfl rfl ?_
  exact x_goto rfl k
theorem uX2_leastDifference_30 {d : Nat} {Q : Int → yM → Prop} {M : yM} {x1 : Nat} {x2 : Nat} {x3 : Int} {x4 : Int} (k : XW kX2_leastDifference d (some .int) (wQi Q) 31 [some (.inr (.inr 81)), some (.inr (.inr x1)), some (.inr (.inr x2)), some (.inl x3), some (.inl x4), none, none, none, none, none, none] [.inl 0] M) : XW kX2_leastDifference d (some .int) (wQi Q) 30 [some (.inr (.inr 81)), some (.inr (.inr x1)), some (.inr (.inr x2)), some (.inl x3), some (.inl x4), none, none, none, none, none, none] [] M := by
  refine x_iconst 0 rfl (by decide) ?_
  exact k
theorem uX2_leastDifference_31 {d : Nat} {Q : Int → yM → Prop} {M : yM} {x1 : Nat} {x2 : Nat} {x3 : Int} {x4 : Int} {s0 : Int} (kt : (yand x3 2) = 0 → XW kX2_leastDifference d (some .int) (wQi Q) 44 [some (.inr (.inr 81)), some (.inr (.inr x1)), some (.inr (.inr x2)), some (.inl x3), some (.inl x4), some (.inl s0), none, none, none, none, none] [] M) (kf : (yand x3 2) ≠ 0 → XW kX2_leastDifference d (some .int) (wQi Q) 39 [some (.inr (.inr 81)), some (.inr (.inr x1)), some (.inr (.inr x2)), some (.inl x3), some (.inl x4), some (.inl s0), none, none, none, none, none] [] M) : XW kX2_leastDifference d (some .int) (wQi Q) 31 [some (.inr (.inr 81)), some (.inr (.inr x1)), some (.inr (.inr x2)), some (.inl x3), some (.inl x4), none, none, none, none, none, none] [.inl s0] M := by
  refine x_istore rfl (Nat.le_of_ble_eq_true rfl) rfl ?_
  refine x_iload_n rfl rfl ?_
  refine x_iconst 2 rfl (by decide) ?_
  refine x_iand rfl ?_
  exact x_ifeq rfl (rng_yand _ _) kt kf
theorem uX2_leastDifference_39 {d : Nat} {Q : Int → yM → Prop} {M : yM} {x1 : Nat} {x2 : Nat} {x3 : Int} {x4 : Int} {x5 : Int} (k : XW kX2_leastDifference d (some .int) (wQi Q) 45 [some (.inr (.inr 81)), some (.inr (.inr x1)), some (.inr (.inr x2)), some (.inl x3), some (.inl x4), some (.inl x5), none, none, none, none, none] [.inl x4] M) : XW kX2_leastDifference d (some .int) (wQi Q) 39 [some (.inr (.inr 81)), some (.inr (.inr x1)), some (.inr (.inr x2)), some (.inl x3), some (.inl x4), some (.inl x5), none, none, none, none, none] [] M := by
  refine x_iload rfl rfl ?_
  exact x_goto rfl k
theorem uX2_leastDifference_44 {d : Nat} {Q : Int → yM → Prop} {M : yM} {x1 : Nat} {x2 : Nat} {x3 : Int} {x4 : Int} {x5 : Int} (k : XW kX2_leastDifference d (some .int) (wQi Q) 45 [some (.inr (.inr 81)), some (.inr (.inr x1)), some (.inr (.inr x2)), some (.inl x3), some (.inl x4), some (.inl x5), none, none, none, none, none] [.inl 0] M) : XW kX2_leastDifference d (some .int) (wQi Q) 44 [some (.inr (.inr 81)), some (.inr (.inr x1)), some (.inr (.inr x2)), some (.inl x3), some (.inl x4), some (.inl x5), none, none, none, none, none] [] M := by
  refine x_iconst 0 rfl (by decide) ?_
  exact k
theorem uX2_leastDifference_45 {d : Nat} {Q : Int → yM → Prop} {M : yM} {x1 : Nat} {x2 : Nat} {x3 : Int} {x4 : Int} {x5 : Int} {s0 : Int} (kt : (yand x3 4) = 0 → XW kX2_leastDifference d (some .int) (wQi Q) 58 [some (.inr (.inr 81)), some (.inr (.inr x1)), some (.inr (.inr x2)), some (.inl x3), some (.inl x4), some (.inl x5), some (.inl s0), none, none, none, none] [] M) (kf : (yand x3 4) ≠ 0 → XW kX2_leastDifference d (some .int) (wQi Q) 53 [some (.inr (.inr 81)), some (.inr (.inr x1)), some (.inr (.inr x2)), some (.inl x3), some (.inl x4), some (.inl x5), some (.inl s0), none, none, none, none] [] M) : XW kX2_leastDifference d (some .int) (wQi Q) 45 [some (.inr (.inr 81)), some (.inr (.inr x1)), some (.inr (.inr x2)), some (.inl x3), some (.inl x4), some (.inl x5), none, none, none, none, none] [.inl s0] M := by
  refine x_istore rfl (Nat.le_of_ble_eq_true rfl) rfl ?_
  refine x_iload_n rfl rfl ?_
  refine x_iconst 4 rfl (by decide) ?_
  refine x_iand rfl ?_
  exact x_ifeq rfl (rng_yand _ _) kt kf
theorem uX2_leastDifference_53 {d : Nat} {Q : Int → yM → Prop} {M : yM} {x1 : Nat} {x2 : Nat} {x3 : Int} {x4 : Int} {x5 : Int} {x6 : Int} (k : XW kX2_leastDifference d (some .int) (wQi Q) 59 [some (.inr (.inr 81)), some (.inr (.inr x1)), some (.inr (.inr x2)), some (.inl x3), some (.inl x4), some (.inl x5), some (.inl x6), none, none, none, none] [.inl x4] M) : XW kX2_leastDifference d (some .int) (wQi Q) 53 [some (.inr (.inr 81)), some (.inr (.inr x1)), some (.inr (.inr x2)), some (.inl x3), some (.inl x4), some (.inl x5), some (.inl x6), none, none, none, none] [] M := by
  refine x_iload rfl rfl ?_
  exact x_goto rfl k
theorem uX2_leastDifference_58 {d : Nat} {Q : Int → yM → Prop} {M : yM} {x1 : Nat} {x2 : Nat} {x3 : Int} {x4 : Int} {x5 : Int} {x6 : Int} (k : XW kX2_leastDifference d (some .int) (wQi Q) 59 [some (.inr (.inr 81)), some (.inr (.inr x1)), some (.inr (.inr x2)), some (.inl x3), some (.inl x4), some (.inl x5), some (.inl x6), none, none, none, none] [.inl 0] M) : XW kX2_leastDifference d (some .int) (wQi Q) 58 [some (.inr (.inr 81)), some (.inr (.inr x1)), some (.inr (.inr x2)), some (.inl x3), some (.inl x4), some (.inl x5), some (.inl x6), none, none, none, none] [] M := by
  refine x_iconst 0 rfl (by decide) ?_
  exact k
theorem uX2_leastDifference_59 {d : Nat} {Q : Int → yM → Prop} {M : yM} {x1 : Nat} {x2 : Nat} {x3 : Int} {x4 : Int} {x5 : Int} {x6 : Int} {s0 : Int} (k : XW kX2_leastDifference d (some .int) (wQi Q) 64 [some (.inr (.inr 81)), some (.inr (.inr x1)), some (.inr (.inr x2)), some (.inl x3), some (.inl x4), some (.inl x5), some (.inl x6), some (.inl s0), some (.inl 0), none, none] [] M) : XW kX2_leastDifference d (some .int) (wQi Q) 59 [some (.inr (.inr 81)), some (.inr (.inr x1)), some (.inr (.inr x2)), some (.inl x3), some (.inl x4), some (.inl x5), some (.inl x6), none, none, none, none] [.inl s0] M := by
  refine x_istore rfl (Nat.le_of_ble_eq_true rfl) rfl ?_
  refine x_iconst 0 rfl (by decide) ?_
  refine x_istore rfl (Nat.le_of_ble_eq_true rfl) rfl ?_
  exact k
theorem uX2_leastDifference_64 {d : Nat} {Q : Int → yM → Prop} {M : yM} {x1 : Nat} {x2 : Nat} {x3 : Int} {x4 : Int} {x5 : Int} {x6 : Int} {x7 : Int} {x8 : Int} {wx9 : Option yV} {wx10 : Option yV} (h1 : -2147483648 ≤ x8 ∧ x8 < 2147483648) (h2 : -2147483648 ≤ x7 ∧ x7 < 2147483648) (kt : x8 > x7 → XW kX2_leastDifference d (some .int) (wQi Q) 161 [some (.inr (.inr 81)), some (.inr (.inr x1)), some (.inr (.inr x2)), some (.inl x3), some (.inl x4), some (.inl x5), some (.inl x6), some (.inl x7), some (.inl x8), wx9, wx10] [] M) (kf : x8 ≤ x7 → XW kX2_leastDifference d (some .int) (wQi Q) 71 [some (.inr (.inr 81)), some (.inr (.inr x1)), some (.inr (.inr x2)), some (.inl x3), some (.inl x4), some (.inl x5), some (.inl x6), some (.inl x7), some (.inl x8), wx9, wx10] [] M) : XW kX2_leastDifference d (some .int) (wQi Q) 64 [some (.inr (.inr 81)), some (.inr (.inr x1)), some (.inr (.inr x2)), some (.inl x3), some (.inl x4), some (.inl x5), some (.inl x6), some (.inl x7), some (.inl x8), wx9, wx10] [] M := by
  refine x_iload rfl rfl ?_
  refine x_iload rfl rfl ?_
  exact x_icmpgt rfl h1 h2 kt kf
theorem uX2_leastDifference_71 {d : Nat} {Q : Int → yM → Prop} {M : yM} {x1 : Nat} {x2 : Nat} {x3 : Int} {x4 : Int} {x5 : Int} {x6 : Int} {x7 : Int} {x8 : Int} {wx9 : Option yV} {wx10 : Option yV} (k : XW kX2_leastDifference d (some .int) (wQi Q) 74 [some (.inr (.inr 81)), some (.inr (.inr x1)), some (.inr (.inr x2)), some (.inl x3), some (.inl x4), some (.inl x5), some (.inl x6), some (.inl x7), some (.inl x8), some (.inl 0), wx10] [] M) : XW kX2_leastDifference d (some .int) (wQi Q) 71 [some (.inr (.inr 81)), some (.inr (.inr x1)), some (.inr (.inr x2)), some (.inl x3), some (.inl x4), some (.inl x5), some (.inl x6), some (.inl x7), some (.inl x8), wx9, wx10] [] M := by
  refine x_iconst 0 rfl (by decide) ?_
  refine x_istore rfl (Nat.le_of_ble_eq_true rfl) rfl ?_
  exact k
theorem uX2_leastDifference_74 {d : Nat} {Q : Int → yM → Prop} {M : yM} {x1 : Nat} {x2 : Nat} {x3 : Int} {x4 : Int} {x5 : Int} {x6 : Int} {x7 : Int} {x8 : Int} {x9 : Int} {wx10 : Option yV} (h1 : -2147483648 ≤ x9 ∧ x9 < 2147483648) (h2 : -2147483648 ≤ x6 ∧ x6 < 2147483648) (kt : x9 > x6 → XW kX2_leastDifference d (some .int) (wQi Q) 155 [some (.inr (.inr 81)), some (.inr (.inr x1)), some (.inr (.inr x2)), some (.inl x3), some (.inl x4), some (.inl x5), some (.inl x6), some (.inl x7), some (.inl x8), some (.inl x9), wx10] [] M) (kf : x9 ≤ x6 → XW kX2_leastDifference d (some .int) (wQi Q) 81 [some (.inr (.inr 81)), some (.inr (.inr x1)), some (.inr (.inr x2)), some (.inl x3), some (.inl x4), some (.inl x5), some (.inl x6), some (.inl x7), some (.inl x8), some (.inl x9), wx10] [] M) : XW kX2_leastDifference d (some .int) (wQi Q) 74 [some (.inr (.inr 81)), some (.inr (.inr x1)), some (.inr (.inr x2)), some (.inl x3), some (.inl x4), some (.inl x5), some (.inl x6), some (.inl x7), some (.inl x8), some (.inl x9), wx10] [] M := by
  refine x_iload rfl rfl ?_
  refine x_iload rfl rfl ?_
  exact x_icmpgt rfl h1 h2 kt kf
theorem uX2_leastDifference_81 {d : Nat} {Q : Int → yM → Prop} {M : yM} {x1 : Nat} {x2 : Nat} {x3 : Int} {x4 : Int} {x5 : Int} {x6 : Int} {x7 : Int} {x8 : Int} {x9 : Int} {wx10 : Option yV} (k : XW kX2_leastDifference d (some .int) (wQi Q) 84 [some (.inr (.inr 81)), some (.inr (.inr x1)), some (.inr (.inr x2)), some (.inl x3), some (.inl x4), some (.inl x5), some (.inl x6), some (.inl x7), some (.inl x8), some (.inl x9), some (.inl 0)] [] M) : XW kX2_leastDifference d (some .int) (wQi Q) 81 [some (.inr (.inr 81)), some (.inr (.inr x1)), some (.inr (.inr x2)), some (.inl x3), some (.inl x4), some (.inl x5), some (.inl x6), some (.inl x7), some (.inl x8), some (.inl x9), wx10] [] M := by
  refine x_iconst 0 rfl (by decide) ?_
  refine x_istore rfl (Nat.le_of_ble_eq_true rfl) rfl ?_
  exact k
theorem uX2_leastDifference_84 {d : Nat} {Q : Int → yM → Prop} {M : yM} {x1 : Nat} {x2 : Nat} {x3 : Int} {x4 : Int} {x5 : Int} {x6 : Int} {x7 : Int} {x8 : Int} {x9 : Int} {x10 : Int} (h1 : -2147483648 ≤ x10 ∧ x10 < 2147483648) (h2 : -2147483648 ≤ x5 ∧ x5 < 2147483648) (kt : x10 > x5 → XW kX2_leastDifference d (some .int) (wQi Q) 149 [some (.inr (.inr 81)), some (.inr (.inr x1)), some (.inr (.inr x2)), some (.inl x3), some (.inl x4), some (.inl x5), some (.inl x6), some (.inl x7), some (.inl x8), some (.inl x9), some (.inl x10)] [] M) (kf : x10 ≤ x5 → XW kX2_leastDifference d (some .int) (wQi Q) 91 [some (.inr (.inr 81)), some (.inr (.inr x1)), some (.inr (.inr x2)), some (.inl x3), some (.inl x4), some (.inl x5), some (.inl x6), some (.inl x7), some (.inl x8), some (.inl x9), some (.inl x10)] [] M) : XW kX2_leastDifference d (some .int) (wQi Q) 84 [some (.inr (.inr 81)), some (.inr (.inr x1)), some (.inr (.inr x2)), some (.inl x3), some (.inl x4), some (.inl x5), some (.inl x6), some (.inl x7), some (.inl x8), some (.inl x9), some (.inl x10)] [] M := by
  refine x_iload rfl rfl ?_
  refine x_iload rfl rfl ?_
  exact x_icmpgt rfl h1 h2 kt kf
theorem uX2_leastDifference_91 {d : Nat} {Q : Int → yM → Prop} {M : yM} {x1 : Nat} {x2 : Nat} {x3 : Int} {x4 : Int} {x5 : Int} {x6 : Int} {x7 : Int} {x8 : Int} {x9 : Int} {x10 : Int} (k : XCi d 15 [.inr (.inr 81), .inr (.inr x1), .inl x10, .inl x9, .inl x8] M (fun v M' => XW kX2_leastDifference (d + 1) (some .int) (wQi Q) 102 [some (.inr (.inr 81)), some (.inr (.inr x1)), some (.inr (.inr x2)), some (.inl x3), some (.inl x4), some (.inl x5), some (.inl x6), some (.inl x7), some (.inl x8), some (.inl x9), some (.inl x10)] [.inl v] M')) : XW kX2_leastDifference (d + 1) (some .int) (wQi Q) 91 [some (.inr (.inr 81)), some (.inr (.inr x1)), some (.inr (.inr x2)), some (.inl x3), some (.inl x4), some (.inl x5), some (.inl x6), some (.inl x7), some (.inl x8), some (.inl x9), some (.inl x10)] [] M := by
  refine x_aload_n rfl rfl ?_
  refine x_aload_n rfl rfl ?_
  refine x_iload rfl rfl ?_
  refine x_iload rfl rfl ?_
  refine x_iload rfl rfl ?_
  exact x_calli (args := [.inr (.inr 81), .inr (.inr x1), .inl x10, .inl x9, .inl x8]) rfl rfl rfl k
theorem uX2_leastDifference_102 {d : Nat} {Q : Int → yM → Prop} {M : yM} {x1 : Nat} {x2 : Nat} {x3 : Int} {x4 : Int} {x5 : Int} {x6 : Int} {x7 : Int} {x8 : Int} {x9 : Int} {x10 : Int} {s0 : Int} (k : XCi d 15 [.inr (.inr 81), .inr (.inr x2), .inl x10, .inl x9, .inl x8] M (fun v M' => XW kX2_leastDifference (d + 1) (some .int) (wQi Q) 113 [some (.inr (.inr 81)), some (.inr (.inr x1)), some (.inr (.inr x2)), some (.inl x3), some (.inl x4), some (.inl x5), some (.inl x6), some (.inl x7), some (.inl x8), some (.inl x9), some (.inl x10)] [.inl v, .inl s0] M')) : XW kX2_leastDifference (d + 1) (some .int) (wQi Q) 102 [some (.inr (.inr 81)), some (.inr (.inr x1)), some (.inr (.inr x2)), some (.inl x3), some (.inl x4), some (.inl x5), some (.inl x6), some (.inl x7), some (.inl x8), some (.inl x9), some (.inl x10)] [.inl s0] M := by
  refine x_aload_n rfl rfl ?_
  refine x_aload_n rfl rfl ?_
  refine x_iload rfl rfl ?_
  refine x_iload rfl rfl ?_
  refine x_iload rfl rfl ?_
  exact x_calli (args := [.inr (.inr 81), .inr (.inr x2), .inl x10, .inl x9, .inl x8]) rfl rfl rfl k
theorem uX2_leastDifference_113 {d : Nat} {Q : Int → yM → Prop} {M : yM} {x1 : Nat} {x2 : Nat} {x3 : Int} {x4 : Int} {x5 : Int} {x6 : Int} {x7 : Int} {x8 : Int} {x9 : Int} {x10 : Int} {s0 : Int} {s1 : Int} (h1 : -2147483648 ≤ s1 ∧ s1 < 2147483648) (h2 : -2147483648 ≤ s0 ∧ s0 < 2147483648) (kt : s1 = s0 → XW kX2_leastDifference d (some .int) (wQi Q) 143 [some (.inr (.inr 81)), some (.inr (.inr x1)), some (.inr (.inr x2)), some (.inl x3), some (.inl x4), some (.inl x5), some (.inl x6), some (.inl x7), some (.inl x8), some (.inl x9), some (.inl x10)] [] M) (kf : s1 ≠ s0 → XW kX2_leastDifference d (some .int) (wQi Q) 116 [some (.inr (.inr 81)), some (.inr (.inr x1)), some (.inr (.inr x2)), some (.inl x3), some (.inl x4), some (.inl x5), some (.inl x6), some (.inl x7), some (.inl x8), some (.inl x9), some (.inl x10)] [] M) : XW kX2_leastDifference d (some .int) (wQi Q) 113 [some (.inr (.inr 81)), some (.inr (.inr x1)), some (.inr (.inr x2)), some (.inl x3), some (.inl x4), some (.inl x5), some (.inl x6), some (.inl x7), some (.inl x8), some (.inl x9), some (.inl x10)] [.inl s0, .inl s1] M := by
  exact x_icmpeq rfl h1 h2 kt kf
theorem uX2_leastDifference_116 {d : Nat} {Q : Int → yM → Prop} {M : yM} {x1 : Nat} {x2 : Nat} {x3 : Int} {x4 : Int} {x5 : Int} {x6 : Int} {x7 : Int} {x8 : Int} {x9 : Int} {x10 : Int} (k : Q (yor (yor x10 (yshl x9 (ld M 1 0))) (yshl x8 (2 * (ld M 1 0)))) M) : XW kX2_leastDifference d (some .int) (wQi Q) 116 [some (.inr (.inr 81)), some (.inr (.inr x1)), some (.inr (.inr x2)), some (.inl x3), some (.inl x4), some (.inl x5), some (.inl x6), some (.inl x7), some (.inl x8), some (.inl x9), some (.inl x10)] [] M := by
  refine x_iload rfl rfl ?_
  refine x_iload rfl rfl ?_
  refine x_aload_n rfl rfl ?_
  refine x_getR rfl sh81 rfl ?_
  refine x_getI rfl sh1 rfl ?_
  refine x_ishl rfl ?_
  refine x_ior rfl ?_
  refine x_iload rfl rfl ?_
  refine x_iconst 2 rfl (by decide) ?_
  refine x_aload_n rfl rfl ?_
  refine x_getR rfl sh81 rfl ?_
  refine x_getI rfl sh1 rfl ?_
  refine x_imul rfl ?_
  refine x_ishl rfl ?_
  refine x_ior rfl ?_
  exact x_ireturn rfl k
theorem uX2_leastDifference_143 {d : Nat} {Q : Int → yM → Prop} {M : yM} {x1 : Nat} {x2 : Nat} {x3 : Int} {x4 : Int} {x5 : Int} {x6 : Int} {x7 : Int} {x8 : Int} {x9 : Int} {x10 : Int} (k : XW kX2_leastDifference d (some .int) (wQi Q) 84 [some (.inr (.inr 81)), some (.inr (.inr x1)), some (.inr (.inr x2)), some (.inl x3), some (.inl x4), some (.inl x5), some (.inl x6), some (.inl x7), some (.inl x8), some (.inl x9), some (.inl (x10 + 1))] [] M) : XW kX2_leastDifference d (some .int) (wQi Q) 143 [some (.inr (.inr 81)), some (.inr (.inr x1)), some (.inr (.inr x2)), some (.inl x3), some (.inl x4), some (.inl x5), some (.inl x6), some (.inl x7), some (.inl x8), some (.inl x9), some (.inl x10)] [] M := by
  refine x_iinc 1 rfl (by decide) rfl rfl ?_
  exact x_goto rfl k
theorem uX2_leastDifference_149 {d : Nat} {Q : Int → yM → Prop} {M : yM} {x1 : Nat} {x2 : Nat} {x3 : Int} {x4 : Int} {x5 : Int} {x6 : Int} {x7 : Int} {x8 : Int} {x9 : Int} {x10 : Int} (k : XW kX2_leastDifference d (some .int) (wQi Q) 74 [some (.inr (.inr 81)), some (.inr (.inr x1)), some (.inr (.inr x2)), some (.inl x3), some (.inl x4), some (.inl x5), some (.inl x6), some (.inl x7), some (.inl x8), some (.inl (x9 + 1)), some (.inl x10)] [] M) : XW kX2_leastDifference d (some .int) (wQi Q) 149 [some (.inr (.inr 81)), some (.inr (.inr x1)), some (.inr (.inr x2)), some (.inl x3), some (.inl x4), some (.inl x5), some (.inl x6), some (.inl x7), some (.inl x8), some (.inl x9), some (.inl x10)] [] M := by
  refine x_iinc 1 rfl (by decide) rfl rfl ?_
  exact x_goto rfl k
theorem uX2_leastDifference_155 {d : Nat} {Q : Int → yM → Prop} {M : yM} {x1 : Nat} {x2 : Nat} {x3 : Int} {x4 : Int} {x5 : Int} {x6 : Int} {x7 : Int} {x8 : Int} {x9 : Int} {wx10 : Option yV} (k : XW kX2_leastDifference d (some .int) (wQi Q) 64 [some (.inr (.inr 81)), some (.inr (.inr x1)), some (.inr (.inr x2)), some (.inl x3), some (.inl x4), some (.inl x5), some (.inl x6), some (.inl x7), some (.inl (x8 + 1)), some (.inl x9), wx10] [] M) : XW kX2_leastDifference d (some .int) (wQi Q) 155 [some (.inr (.inr 81)), some (.inr (.inr x1)), some (.inr (.inr x2)), some (.inl x3), some (.inl x4), some (.inl x5), some (.inl x6), some (.inl x7), some (.inl x8), some (.inl x9), wx10] [] M := by
  refine x_iinc 1 rfl (by decide) rfl rfl ?_
  exact x_goto rfl k
theorem uX2_leastDifference_161 {d : Nat} {Q : Int → yM → Prop} {M : yM} {x1 : Nat} {x2 : Nat} {x3 : Int} {x4 : Int} {x5 : Int} {x6 : Int} {x7 : Int} {x8 : Int} {wx9 : Option yV} {wx10 : Option yV} (k : Q (-9) M) : XW kX2_leastDifference d (some .int) (wQi Q) 161 [some (.inr (.inr 81)), some (.inr (.inr x1)), some (.inr (.inr x2)), some (.inl x3), some (.inl x4), some (.inl x5), some (.inl x6), some (.inl x7), some (.inl x8), wx9, wx10] [] M := by
  refine x_bipush (-9) rfl (by decide) ?_
  exact x_ireturn rfl k
theorem eX3_forget {d : Nat} {Q : yM → Prop} {M : yM}   (h : XW kX3_forget d none (wQv Q) 0 [some (.inr (.inr 65))] [] M) : XCv d 20 [.inr (.inr 65)] M Q :=
  XC.ofW (Mm := (yX3_forget, cX3_forget, 1, none, 4, kX3_forget)) rfl (rcv_ok sh65) rfl rfl h
theorem uX3_forget_0 {d : Nat} {Q : yM → Prop} {M : yM}  (k : ∀ M', M' = (put M 65 6 0) → XW kX3_forget d none (wQv Q) 5 [some (.inr (.inr 65))] [] M') : XW kX3_forget d none (wQv Q) 0 [some (.inr (.inr 65))] [] M := by
  refine x_aload_n rfl rfl ?_
  refine x_iconst 0 rfl (by decide) ?_
  refine x_putZ rfl rfl sh65 rfl (by decide) ?_
  exact k _ rfl
theorem uX3_forget_5 {d : Nat} {Q : yM → Prop} {M : yM}  (k : ∀ M', M' = (put M 65 8 0) → XW kX3_forget d none (wQv Q) 10 [some (.inr (.inr 65))] [] M') : XW kX3_forget d none (wQv Q) 5 [some (.inr (.inr 65))] [] M := by
  refine x_aload_n rfl rfl ?_
  refine x_iconst 0 rfl (by decide) ?_
  refine x_putZ rfl rfl sh65 rfl (by decide) ?_
  exact k _ rfl
theorem uX3_forget_10 {d : Nat} {Q : yM → Prop} {M : yM}  (k : ∀ M', M' = (put M 65 9 0) → XW kX3_forget d none (wQv Q) 15 [some (.inr (.inr 65))] [] M') : XW kX3_forget d none (wQv Q) 10 [some (.inr (.inr 65))] [] M := by
  refine x_aload_n rfl rfl ?_
  refine x_iconst 0 rfl (by decide) ?_
  refine x_putZ rfl rfl sh65 rfl (by decide) ?_
  exact k _ rfl
theorem uX3_forget_15 {d : Nat} {Q : yM → Prop} {M : yM}  (k : Q M) : XW kX3_forget d none (wQv Q) 15 [some (.inr (.inr 65))] [] M := by
  exact x_return rfl k
theorem eX3_howMany {d : Nat} {Q : Int → yM → Prop} {M : yM}   (h : XW kX3_howMany d (some .int) (wQi Q) 0 [some (.inr (.inr 65))] [] M) : XCi d 21 [.inr (.inr 65)] M Q :=
  XC.ofW (Mm := (yX3_howMany, cX3_howMany, 1, (some .int), 4, kX3_howMany)) rfl (rcv_ok sh65) rfl rfl h
theorem uX3_howMany_0 {d : Nat} {Q : Int → yM → Prop} {M : yM}  (kt : (ld M 65 6) ≠ 0 → XW kX3_howMany d (some .int) (wQi Q) 59 [some (.inr (.inr 65))] [] M) (kf : (ld M 65 6) = 0 → XW kX3_howMany d (some .int) (wQi Q) 7 [some (.inr (.inr 65))] [] M) : XW kX3_howMany d (some .int) (wQi Q) 0 [some (.inr (.inr 65))] [] M := by
  refine x_aload_n rfl rfl ?_
  refine x_getI rfl sh65 rfl ?_
  exact x_ifne rfl (rng_ld _ _ _) kt kf
theorem uX3_howMany_7 {d : Nat} {Q : Int → yM → Prop} {M : yM}  (k : XCi d 46 [.inr (.inr 22), .inr (.inr 20), .inl (ld M 19 0), .inl 20001, .inl 0] M (fun v M' => XW kX3_howMany (d + 1) (some .int) (wQi Q) 33 [some (.inr (.inr 65))] [.inl v, .inr (.inr 65)] M')) : XW kX3_howMany (d + 1) (some .int) (wQi Q) 7 [some (.inr (.inr 65))] [] M := by
  refine x_aload_n rfl rfl ?_
  refine x_aload_n rfl rfl ?_
  refine x_getR rfl sh65 rfl ?_
  refine x_aload_n rfl rfl ?_
  refine x_getR rfl sh65 rfl ?_
  refine x_getR rfl sh19 rfl ?_
  refine x_aload_n rfl rfl ?_
  refine x_getR rfl sh65 rfl ?_
  refine x_getI rfl sh19 rfl ?_
  refine x_sipush 20001 rfl (by decide) ?_
  refine x_iconst 0 rfl (by decide) ?_
  exact x_calli (args := [.inr (.inr 22), .inr (.inr 20), .inl (ld M 19 0), .inl 20001, .inl 0]) rfl rfl rfl k
theorem uX3_howMany_33 {d : Nat} {Q : Int → yM → Prop} {M : yM} {s0 : Int} (k : ∀ M', M' = (put M 65 5 s0) → XW kX3_howMany d (some .int) (wQi Q) 36 [some (.inr (.inr 65))] [] M') : XW kX3_howMany d (some .int) (wQi Q) 33 [some (.inr (.inr 65))] [.inl s0, .inr (.inr 65)] M := by
  refine x_putI rfl rfl sh65 rfl ?_
  exact k _ rfl
theorem uX3_howMany_36 {d : Nat} {Q : Int → yM → Prop} {M : yM}  (k : ∀ M', M' = (cpy M 53 66 0 0 64) → XW kX3_howMany d (some .int) (wQi Q) 54 [some (.inr (.inr 65))] [] M') : XW kX3_howMany d (some .int) (wQi Q) 36 [some (.inr (.inr 65))] [] M := by
  refine x_aload_n rfl rfl ?_
  refine x_getR rfl sh65 rfl ?_
  refine x_getR rfl sh22 rfl ?_
  refine x_iconst 0 rfl (by decide) ?_
  refine x_aload_n rfl rfl ?_
  refine x_getR rfl sh65 rfl ?_
  refine x_iconst 0 rfl (by decide) ?_
  refine x_bipush 64 rfl (by decide) ?_
  refine x_cpy rfl ⟨sh53, Nat.le_of_ble_eq_true rfl⟩ ⟨sh66, Nat.le_of_ble_eq_true rfl⟩ (by decide) (Nat.le_of_ble_eq_true rfl) ?_
  exact k _ rfl
theorem uX3_howMany_54 {d : Nat} {Q : Int → yM → Prop} {M : yM}  (k : ∀ M', M' = (put M 65 6 1) → XW kX3_howMany d (some .int) (wQi Q) 59 [some (.inr (.inr 65))] [] M') : XW kX3_howMany d (some .int) (wQi Q) 54 [some (.inr (.inr 65))] [] M := by
  refine x_aload_n rfl rfl ?_
  refine x_iconst 1 rfl (by decide) ?_
  refine x_putZ rfl rfl sh65 rfl (by decide) ?_
  exact k _ rfl
theorem uX3_howMany_59 {d : Nat} {Q : Int → yM → Prop} {M : yM}  (k : Q (ld M 65 5) M) : XW kX3_howMany d (some .int) (wQi Q) 59 [some (.inr (.inr 65))] [] M := by
  refine x_aload_n rfl rfl ?_
  refine x_getI rfl sh65 rfl ?_
  exact x_ireturn rfl k
theorem eX3_areThere {d : Nat} {Q : Int → yM → Prop} {M : yM}   (h : XW kX3_areThere d (some .boolean) (wQi Q) 0 [some (.inr (.inr 65))] [] M) : XCi d 22 [.inr (.inr 65)] M Q :=
  XC.ofW (Mm := (yX3_areThere, cX3_areThere, 1, (some .boolean), 4, kX3_areThere)) rfl (rcv_ok sh65) rfl rfl h
theorem uX3_areThere_0 {d : Nat} {Q : Int → yM → Prop} {M : yM}  (kt : (ld M 65 8) ≠ 0 → XW kX3_areThere d (some .boolean) (wQi Q) 65 [some (.inr (.inr 65))] [] M) (kf : (ld M 65 8) = 0 → XW kX3_areThere d (some .boolean) (wQi Q) 7 [some (.inr (.inr 65))] [] M) : XW kX3_areThere d (some .boolean) (wQi Q) 0 [some (.inr (.inr 65))] [] M := by
  refine x_aload_n rfl rfl ?_
  refine x_getI rfl sh65 rfl ?_
  exact x_ifne rfl (rng_ld _ _ _) kt kf
theorem uX3_areThere_7 {d : Nat} {Q : Int → yM → Prop} {M : yM}  (k : XCi d 46 [.inr (.inr 22), .inr (.inr 20), .inl (ld M 19 0), .inl 1, .inl 0] M (fun v M' => XW kX3_areThere (d + 1) (some .boolean) (wQi Q) 31 [some (.inr (.inr 65))] [.inl v, .inr (.inr 65)] M')) : XW kX3_areThere (d + 1) (some .boolean) (wQi Q) 7 [some (.inr (.inr 65))] [] M := by
  refine x_aload_n rfl rfl ?_
  refine x_aload_n rfl rfl ?_
  refine x_getR rfl sh65 rfl ?_
  refine x_aload_n rfl rfl ?_
  refine x_getR rfl sh65 rfl ?_
  refine x_getR rfl sh19 rfl ?_
  refine x_aload_n rfl rfl ?_
  refine x_getR rfl sh65 rfl ?_
  refine x_getI rfl sh19 rfl ?_
  refine x_iconst 1 rfl (by decide) ?_
  refine x_iconst 0 rfl (by decide) ?_
  exact x_calli (args := [.inr (.inr 22), .inr (.inr 20), .inl (ld M 19 0), .inl 1, .inl 0]) rfl rfl rfl k
theorem uX3_areThere_31 {d : Nat} {Q : Int → yM → Prop} {M : yM} {s0 : Int} (h1 : -2147483648 ≤ s0 ∧ s0 < 2147483648) (kt : s0 ≤ 0 → XW kX3_areThere d (some .boolean) (wQi Q) 38 [some (.inr (.inr 65))] [.inr (.inr 65)] M) (kf : s0 > 0 → XW kX3_areThere d (some .boolean) (wQi Q) 34 [some (.inr (.inr 65))] [.inr (.inr 65)] M) : XW kX3_areThere d (some .boolean) (wQi Q) 31 [some (.inr (.inr 65))] [.inl s0, .inr (.inr 65)] M := by
  exact x_ifle rfl h1 kt kf
theorem uX3_areThere_34 {d : Nat} {Q : Int → yM → Prop} {M : yM}  (k : XW kX3_areThere d (some .boolean) (wQi Q) 39 [some (.inr (.inr 65))] [.inl 1, .inr (.inr 65)] M) : XW kX3_areThere d (some .boolean) (wQi Q) 34 [some (.inr (.inr 65))] [.inr (.inr 65)] M := by
  refine x_iconst 1 rfl (by decide) ?_
  exact x_goto rfl k
theorem uX3_areThere_38 {d : Nat} {Q : Int → yM → Prop} {M : yM}  (k : XW kX3_areThere d (some .boolean) (wQi Q) 39 [some (.inr (.inr 65))] [.inl 0, .inr (.inr 65)] M) : XW kX3_areThere d (some .boolean) (wQi Q) 38 [some (.inr (.inr 65))] [.inr (.inr 65)] M := by
  refine x_iconst 0 rfl (by decide) ?_
  exact k
theorem uX3_areThere_39 {d : Nat} {Q : Int → yM → Prop} {M : yM} {s0 : Int} (h1 : s0 = 0 ∨ s0 = 1) (k : ∀ M', M' = (put M 65 7 s0) → XW kX3_areThere d (some .boolean) (wQi Q) 42 [some (.inr (.inr 65))] [] M') : XW kX3_areThere d (some .boolean) (wQi Q) 39 [some (.inr (.inr 65))] [.inl s0, .inr (.inr 65)] M := by
  refine x_putZ rfl rfl sh65 rfl h1 ?_
  exact k _ rfl
theorem uX3_areThere_42 {d : Nat} {Q : Int → yM → Prop} {M : yM}  (k : ∀ M', M' = (cpy M 54 67 0 0 64) → XW kX3_areThere d (some .boolean) (wQi Q) 60 [some (.inr (.inr 65))] [] M') : XW kX3_areThere d (some .boolean) (wQi Q) 42 [some (.inr (.inr 65))] [] M := by
  refine x_aload_n rfl rfl ?_
  refine x_getR rfl sh65 rfl ?_
  refine x_getR rfl sh22 rfl ?_
  refine x_iconst 0 rfl (by decide) ?_
  refine x_aload_n rfl rfl ?_
  refine x_getR rfl sh65 rfl ?_
  refine x_iconst 0 rfl (by decide) ?_
  refine x_bipush 64 rfl (by decide) ?_
  refine x_cpy rfl ⟨sh54, Nat.le_of_ble_eq_true rfl⟩ ⟨sh67, Nat.le_of_ble_eq_true rfl⟩ (by decide) (Nat.le_of_ble_eq_true rfl) ?_
  exact k _ rfl
theorem uX3_areThere_60 {d : Nat} {Q : Int → yM → Prop} {M : yM}  (k : ∀ M', M' = (put M 65 8 1) → XW kX3_areThere d (some .boolean) (wQi Q) 65 [some (.inr (.inr 65))] [] M') : XW kX3_areThere d (some .boolean) (wQi Q) 60 [some (.inr (.inr 65))] [] M := by
  refine x_aload_n rfl rfl ?_
  refine x_iconst 1 rfl (by decide) ?_
  refine x_putZ rfl rfl sh65 rfl (by decide) ?_
  exact k _ rfl
theorem uX3_areThere_65 {d : Nat} {Q : Int → yM → Prop} {M : yM}  (h1 : (ld M 65 7) = 0 ∨ (ld M 65 7) = 1) (k : Q (ld M 65 7) M) : XW kX3_areThere d (some .boolean) (wQi Q) 65 [some (.inr (.inr 65))] [] M := by
  refine x_aload_n rfl rfl ?_
  refine x_getI rfl sh65 rfl ?_
  exact x_zreturn rfl h1 k
theorem eX3_findLeast {d : Nat} {Q : Int → yM → Prop} {M : yM}   (h : XW kX3_findLeast d (some .boolean) (wQi Q) 0 [some (.inr (.inr 65)), none, none] [] M) : XCi d 23 [.inr (.inr 65)] M Q :=
  XC.ofW (Mm := (yX3_findLeast, cX3_findLeast, 3, (some .boolean), 4, kX3_findLeast)) rfl (rcv_ok sh65) rfl rfl h
theorem uX3_findLeast_0 {d : Nat} {Q : Int → yM → Prop} {M : yM}  (k : XCi d 22 [.inr (.inr 65)] M (fun v M' => XW kX3_findLeast (d + 1) (some .boolean) (wQi Q) 4 [some (.inr (.inr 65)), none, none] [.inl v] M')) : XW kX3_findLeast (d + 1) (some .boolean) (wQi Q) 0 [some (.inr (.inr 65)), none, none] [] M := by
  refine x_aload_n rfl rfl ?_
  exact x_calli (args := [.inr (.inr 65)]) rfl rfl rfl k
theorem uX3_findLeast_4 {d : Nat} {Q : Int → yM → Prop} {M : yM} {s0 : Int} (h1 : -2147483648 ≤ s0 ∧ s0 < 2147483648) (kt : s0 = 0 → XW kX3_findLeast d (some .boolean) (wQi Q) 87 [some (.inr (.inr 65)), none, none] [] M) (kf : s0 ≠ 0 → XW kX3_findLeast d (some .boolean) (wQi Q) 7 [some (.inr (.inr 65)), none, none] [] M) : XW kX3_findLeast d (some .boolean) (wQi Q) 4 [some (.inr (.inr 65)), none, none] [.inl s0] M := by
  exact x_ifeq rfl h1 kt kf
theorem uX3_findLeast_7 {d : Nat} {Q : Int → yM → Prop} {M : yM}  (kt : (ld M 65 9) ≠ 0 → XW kX3_findLeast d (some .boolean) (wQi Q) 87 [some (.inr (.inr 65)), none, none] [] M) (kf : (ld M 65 9) = 0 → XW kX3_findLeast d (some .boolean) (wQi Q) 14 [some (.inr (.inr 65)), none, none] [] M) : XW kX3_findLeast d (some .boolean) (wQi Q) 7 [some (.inr (.inr 65)), none, none] [] M := by
  refine x_aload_n rfl rfl ?_
  refine x_getI rfl sh65 rfl ?_
  exact x_ifne rfl (rng_ld _ _ _) kt kf
theorem uX3_findLeast_14 {d : Nat} {Q : Int → yM → Prop} {M : yM}  (k : ∀ M', M' = (cpy M 20 68 0 0 64) → XW kX3_findLeast d (some .boolean) (wQi Q) 32 [some (.inr (.inr 65)), none, none] [] M') : XW kX3_findLeast d (some .boolean) (wQi Q) 14 [some (.inr (.inr 65)), none, none] [] M := by
  refine x_aload_n rfl rfl ?_
  refine x_getR rfl sh65 rfl ?_
  refine x_getR rfl sh19 rfl ?_
  refine x_iconst 0 rfl (by decide) ?_
  refine x_aload_n rfl rfl ?_
  refine x_getR rfl sh65 rfl ?_
  refine x_iconst 0 rfl (by decide) ?_
  refine x_bipush 64 rfl (by decide) ?_
  refine x_cpy rfl ⟨sh20, Nat.le_of_ble_eq_true rfl⟩ ⟨sh68, Nat.le_of_ble_eq_true rfl⟩ (by decide) (Nat.le_of_ble_eq_true rfl) ?_
  exact k _ rfl
theorem uX3_findLeast_32 {d : Nat} {Q : Int → yM → Prop} {M : yM}  (k : XW kX3_findLeast d (some .boolean) (wQi Q) 34 [some (.inr (.inr 65)), some (.inl 0), none] [] M) : XW kX3_findLeast d (some .boolean) (wQi Q) 32 [some (.inr (.inr 65)), none, none] [] M := by
  refine x_iconst 0 rfl (by decide) ?_
  refine x_istore_n rfl (Nat.le_of_ble_eq_true rfl) rfl ?_
  exact k
theorem uX3_findLeast_34 {d : Nat} {Q : Int → yM → Prop} {M : yM} {x1 : Int} {wx2 : Option yV} (h1 : -2147483648 ≤ x1 ∧ x1 < 2147483648) (kt : x1 ≥ (ld M 19 0) → XW kX3_findLeast d (some .boolean) (wQi Q) 82 [some (.inr (.inr 65)), some (.inl x1), wx2] [] M) (kf : x1 < (ld M 19 0) → XW kX3_findLeast d (some .boolean) (wQi Q) 45 [some (.inr (.inr 65)), some (.inl x1), wx2] [] M) : XW kX3_findLeast d (some .boolean) (wQi Q) 34 [some (.inr (.inr 65)), some (.inl x1), wx2] [] M := by
  refine x_iload_n rfl rfl ?_
  refine x_aload_n rfl rfl ?_
  refine x_getR rfl sh65 rfl ?_
  refine x_getI rfl sh19 rfl ?_
  exact x_icmpge rfl h1 (rng_ld _ _ _) kt kf
theorem uX3_findLeast_45 {d : Nat} {Q : Int → yM → Prop} {M : yM} {x1 : Int} {wx2 : Option yV} (k : XW kX3_findLeast d (some .boolean) (wQi Q) 49 [some (.inr (.inr 65)), some (.inl x1), some (.inl (x1 + 1))] [] M) : XW kX3_findLeast d (some .boolean) (wQi Q) 45 [some (.inr (.inr 65)), some (.inl x1), wx2] [] M := by
  refine x_iload_n rfl rfl ?_
  refine x_iconst 1 rfl (by decide) ?_
  refine x_iadd rfl ?_
  refine x_istore_n rfl (Nat.le_of_ble_eq_true rfl) rfl ?_
  exact k
theorem uX3_findLeast_49 {d : Nat} {Q : Int → yM → Prop} {M : yM} {x1 : Int} {x2 : Int} (h1 : -2147483648 ≤ x2 ∧ x2 < 2147483648) (kt : x2 ≥ (ld M 19 0) → XW kX3_findLeast d (some .boolean) (wQi Q) 76 [some (.inr (.inr 65)), some (.inl x1), some (.inl x2)] [] M) (kf : x2 < (ld M 19 0) → XW kX3_findLeast d (some .boolean) (wQi Q) 60 [some (.inr (.inr 65)), some (.inl x1), some (.inl x2)] [] M) : XW kX3_findLeast d (some .boolean) (wQi Q) 49 [some (.inr (.inr 65)), some (.inl x1), some (.inl x2)] [] M := by
  refine x_iload_n rfl rfl ?_
  refine x_aload_n rfl rfl ?_
  refine x_getR rfl sh65 rfl ?_
  refine x_getI rfl sh19 rfl ?_
  exact x_icmpge rfl h1 (rng_ld _ _ _) kt kf
theorem uX3_findLeast_60 {d : Nat} {Q : Int → yM → Prop} {M : yM} {x1 : Int} {x2 : Int} (k : XCv d 24 [.inr (.inr 65), .inl ((8 * x1) + x2)] M (fun M' => XW kX3_findLeast (d + 1) (some .boolean) (wQi Q) 70 [some (.inr (.inr 65)), some (.inl x1), some (.inl x2)] [] M')) : XW kX3_findLeast (d + 1) (some .boolean) (wQi Q) 60 [some (.inr (.inr 65)), some (.inl x1), some (.inl x2)] [] M := by
  refine x_aload_n rfl rfl ?_
  refine x_bipush 8 rfl (by decide) ?_
  refine x_iload_n rfl rfl ?_
  refine x_imul rfl ?_
  refine x_iload_n rfl rfl ?_
  refine x_iadd rfl ?_
  exact x_callv (args := [.inr (.inr 65), .inl ((8 * x1) + x2)]) rfl rfl rfl k
theorem uX3_findLeast_70 {d : Nat} {Q : Int → yM → Prop} {M : yM} {x1 : Int} {x2 : Int} (k : XW kX3_findLeast d (some .boolean) (wQi Q) 49 [some (.inr (.inr 65)), some (.inl x1), some (.inl (x2 + 1))] [] M) : XW kX3_findLeast d (some .boolean) (wQi Q) 70 [some (.inr (.inr 65)), some (.inl x1), some (.inl x2)] [] M := by
  refine x_iinc 1 rfl (by decide) rfl rfl ?_
  exact x_goto rfl k
theorem uX3_findLeast_76 {d : Nat} {Q : Int → yM → Prop} {M : yM} {x1 : Int} {x2 : Int} (k : XW kX3_findLeast d (some .boolean) (wQi Q) 34 [some (.inr (.inr 65)), some (.inl (x1 + 1)), some (.inl x2)] [] M) : XW kX3_findLeast d (some .boolean) (wQi Q) 76 [some (.inr (.inr 65)), some (.inl x1), some (.inl x2)] [] M := by
  refine x_iinc 1 rfl (by decide) rfl rfl ?_
  exact x_goto rfl k
theorem uX3_findLeast_82 {d : Nat} {Q : Int → yM → Prop} {M : yM} {x1 : Int} {wx2 : Option yV} (k : ∀ M', M' = (put M 65 9 1) → XW kX3_findLeast d (some .boolean) (wQi Q) 87 [some (.inr (.inr 65)), some (.inl x1), wx2] [] M') : XW kX3_findLeast d (some .boolean) (wQi Q) 82 [some (.inr (.inr 65)), some (.inl x1), wx2] [] M := by
  refine x_aload_n rfl rfl ?_
  refine x_iconst 1 rfl (by decide) ?_
  refine x_putZ rfl rfl sh65 rfl (by decide) ?_
  exact k _ rfl
theorem uX3_findLeast_87 {d : Nat} {Q : Int → yM → Prop} {M : yM} {wx1 : Option yV} {wx2 : Option yV} (h1 : (ld M 65 7) = 0 ∨ (ld M 65 7) = 1) (k : Q (ld M 65 7) M) : XW kX3_findLeast d (some .boolean) (wQi Q) 87 [some (.inr (.inr 65)), wx1, wx2] [] M := by
  refine x_aload_n rfl rfl ?_
  refine x_getI rfl sh65 rfl ?_
  exact x_zreturn rfl h1 k
theorem eX3_fixLeast {d : Nat} {Q : yM → Prop} {M : yM} {x1 : Int}  (h : XW kX3_fixLeast d none (wQv Q) 0 [some (.inr (.inr 65)), some (.inl x1), none, none, none, none] [] M) : XCv d 24 [.inr (.inr 65), .inl x1] M Q :=
  XC.ofW (Mm := (yX3_fixLeast, cX3_fixLeast, 6, none, 4, kX3_fixLeast)) rfl (rcv_ok sh65) rfl rfl h
theorem uX3_fixLeast_0 {d : Nat} {Q : yM → Prop} {M : yM} {x1 : Int} (h1 : 0 ≤ x1 ∧ x1 < 64) (h2 : 0 ≤ x1 ∧ x1 < 64) (k : XCi d 116 [.inl (ld M 67 x1)] M (fun v M' => XW kX3_fixLeast (d + 1) none (wQv Q) 16 [some (.inr (.inr 65)), some (.inl x1), some (.inl (ld M 68 x1)), none, none, none] [.inl v] M')) : XW kX3_fixLeast (d + 1) none (wQv Q) 0 [some (.inr (.inr 65)), some (.inl x1), none, none, none, none] [] M := by
  refine x_aload_n rfl rfl ?_
  refine x_getR rfl sh65 rfl ?_
  refine x_iload_n rfl rfl ?_
  refine x_iaload rfl ⟨sh68, Nat.le_of_ble_eq_true rfl⟩ h1 ?_
  refine x_istore_n rfl (Nat.le_of_ble_eq_true rfl) rfl ?_
  refine x_aload_n rfl rfl ?_
  refine x_getR rfl sh65 rfl ?_
  refine x_iload_n rfl rfl ?_
  refine x_iaload rfl ⟨sh67, Nat.le_of_ble_eq_true rfl⟩ h2 ?_
  exact x_calli (args := [.inl (ld M 67 x1)]) rfl rfl rfl k
theorem uX3_fixLeast_16 {d : Nat} {Q : yM → Prop} {M : yM} {x1 : Int} {x2 : Int} {s0 : Int} (k : XW kX3_fixLeast d none (wQv Q) 23 [some (.inr (.inr 65)), some (.inl x1), some (.inl x2), some (.inl s0), some (.inl 0), some (.inl 0)] [] M) : XW kX3_fixLeast d none (wQv Q) 16 [some (.inr (.inr 65)), some (.inl x1), some (.inl x2), none, none, none] [.inl s0] M := by
  refine x_istore_n rfl (Nat.le_of_ble_eq_true rfl) rfl ?_
  refine x_iconst 0 rfl (by decide) ?_
  refine x_istore rfl (Nat.le_of_ble_eq_true rfl) rfl ?_
  refine x_iconst 0 rfl (by decide) ?_
  refine x_istore rfl (Nat.le_of_ble_eq_true rfl) rfl ?_
  exact k
theorem uX3_fixLeast_23 {d : Nat} {Q : yM → Prop} {M : yM} {x1 : Int} {x2 : Int} {x3 : Int} {x4 : Int} {x5 : Int} (h1 : -2147483648 ≤ x5 ∧ x5 < 2147483648) (h2 : -2147483648 ≤ x3 ∧ x3 < 2147483648) (kt : x5 ≥ x3 → XW kX3_fixLeast d none (wQv Q) 97 [some (.inr (.inr 65)), some (.inl x1), some (.inl x2), some (.inl x3), some (.inl x4), some (.inl x5)] [] M) (kf : x5 < x3 → XW kX3_fixLeast d none (wQv Q) 29 [some (.inr (.inr 65)), some (.inl x1), some (.inl x2), some (.inl x3), some (.inl x4), some (.inl x5)] [] M) : XW kX3_fixLeast d none (wQv Q) 23 [some (.inr (.inr 65)), some (.inl x1), some (.inl x2), some (.inl x3), some (.inl x4), some (.inl x5)] [] M := by
  refine x_iload rfl rfl ?_
  refine x_iload_n rfl rfl ?_
  exact x_icmpge rfl h1 h2 kt kf
theorem uX3_fixLeast_29 {d : Nat} {Q : yM → Prop} {M : yM} {x1 : Int} {x2 : Int} {x3 : Int} {x4 : Int} {x5 : Int} (h1 : -2147483648 ≤ x4 ∧ x4 < 2147483648) (kt : x4 ≠ 0 → XW kX3_fixLeast d none (wQv Q) 97 [some (.inr (.inr 65)), some (.inl x1), some (.inl x2), some (.inl x3), some (.inl x4), some (.inl x5)] [] M) (kf : x4 = 0 → XW kX3_fixLeast d none (wQv Q) 34 [some (.inr (.inr 65)), some (.inl x1), some (.inl x2), some (.inl x3), some (.inl x4), some (.inl x5)] [] M) : XW kX3_fixLeast d none (wQv Q) 29 [some (.inr (.inr 65)), some (.inl x1), some (.inl x2), some (.inl x3), some (.inl x4), some (.inl x5)] [] M := by
  refine x_iload rfl rfl ?_
  exact x_ifne rfl h1 kt kf
theorem uX3_fixLeast_34 {d : Nat} {Q : yM → Prop} {M : yM} {x1 : Int} {x2 : Int} {x3 : Int} {x4 : Int} {x5 : Int} (kt : (yand (yshr x2 x5) 1) ≠ 1 → XW kX3_fixLeast d none (wQv Q) 91 [some (.inr (.inr 65)), some (.inl x1), some (.inl x2), some (.inl x3), some (.inl x4), some (.inl x5)] [] M) (kf : (yand (yshr x2 x5) 1) = 1 → XW kX3_fixLeast d none (wQv Q) 44 [some (.inr (.inr 65)), some (.inl x1), some (.inl x2), some (.inl x3), some (.inl x4), some (.inl x5)] [] M) : XW kX3_fixLeast d none (wQv Q) 34 [some (.inr (.inr 65)), some (.inl x1), some (.inl x2), some (.inl x3), some (.inl x4), some (.inl x5)] [] M := by
  refine x_iload_n rfl rfl ?_
  refine x_iload rfl rfl ?_
  refine x_ishr rfl ?_
  refine x_iconst 1 rfl (by decide) ?_
  refine x_iand rfl ?_
  refine x_iconst 1 rfl (by decide) ?_
  exact x_icmpne rfl (rng_yand _ _) (by decide) kt kf
theorem uX3_fixLeast_44 {d : Nat} {Q : yM → Prop} {M : yM} {x1 : Int} {x2 : Int} {x3 : Int} {x4 : Int} {x5 : Int} (k : XCv d 58 [.inr (.inr 21), .inr (.inr 68), .inl x1, .inl x5] M (fun M' => XW kX3_fixLeast (d + 1) none (wQv Q) 61 [some (.inr (.inr 65)), some (.inl x1), some (.inl x2), some (.inl x3), some (.inl x4), some (.inl x5)] [] M')) : XW kX3_fixLeast (d + 1) none (wQv Q) 44 [some (.inr (.inr 65)), some (.inl x1), some (.inl x2), some (.inl x3), some (.inl x4), some (.inl x5)] [] M := by
  refine x_aload_n rfl rfl ?_
  refine x_getR rfl sh65 rfl ?_
  refine x_getR rfl sh22 rfl ?_
  refine x_aload_n rfl rfl ?_
  refine x_getR rfl sh65 rfl ?_
  refine x_iload_n rfl rfl ?_
  refine x_iload rfl rfl ?_
  exact x_callv (args := [.inr (.inr 21), .inr (.inr 68), .inl x1, .inl x5]) rfl rfl rfl k
theorem uX3_fixLeast_61 {d : Nat} {Q : yM → Prop} {M : yM} {x1 : Int} {x2 : Int} {x3 : Int} {x4 : Int} {x5 : Int} (k : XCi d 46 [.inr (.inr 22), .inr (.inr 68), .inl (ld M 19 0), .inl 1, .inl 0] M (fun v M' => XW kX3_fixLeast (d + 1) none (wQv Q) 81 [some (.inr (.inr 65)), some (.inl x1), some (.inl x2), some (.inl x3), some (.inl x4), some (.inl x5)] [.inl v] M')) : XW kX3_fixLeast (d + 1) none (wQv Q) 61 [some (.inr (.inr 65)), some (.inl x1), some (.inl x2), some (.inl x3), some (.inl x4), some (.inl x5)] [] M := by
  refine x_aload_n rfl rfl ?_
  refine x_getR rfl sh65 rfl ?_
  refine x_aload_n rfl rfl ?_
  refine x_getR rfl sh65 rfl ?_
  refine x_aload_n rfl rfl ?_
  refine x_getR rfl sh65 rfl ?_
  refine x_getI rfl sh19 rfl ?_
  refine x_iconst 1 rfl (by decide) ?_
  refine x_iconst 0 rfl (by decide) ?_
  exact x_calli (args := [.inr (.inr 22), .inr (.inr 68), .inl (ld M 19 0), .inl 1, .inl 0]) rfl rfl rfl k
theorem uX3_fixLeast_81 {d : Nat} {Q : yM → Prop} {M : yM} {x1 : Int} {x2 : Int} {x3 : Int} {x4 : Int} {x5 : Int} {s0 : Int} (h1 : -2147483648 ≤ s0 ∧ s0 < 2147483648) (kt : s0 ≤ 0 → XW kX3_fixLeast d none (wQv Q) 88 [some (.inr (.inr 65)), some (.inl x1), some (.inl x2), some (.inl x3), some (.inl x4), some (.inl x5)] [] M) (kf : s0 > 0 → XW kX3_fixLeast d none (wQv Q) 84 [some (.inr (.inr 65)), some (.inl x1), some (.inl x2), some (.inl x3), some (.inl x4), some (.inl x5)] [] M) : XW kX3_fixLeast d none (wQv Q) 81 [some (.inr (.inr 65)), some (.inl x1), some (.inl x2), some (.inl x3), some (.inl x4), some (.inl x5)] [.inl s0] M := by
  exact x_ifle rfl h1 kt kf
theorem uX3_fixLeast_84 {d : Nat} {Q : yM → Prop} {M : yM} {x1 : Int} {x2 : Int} {x3 : Int} {x4 : Int} {x5 : Int} (k : XW kX3_fixLeast d none (wQv Q) 89 [some (.inr (.inr 65)), some (.inl x1), some (.inl x2), some (.inl x3), some (.inl x4), some (.inl x5)] [.inl 1] M) : XW kX3_fixLeast d none (wQv Q) 84 [some (.inr (.inr 65)), some (.inl x1), some (.inl x2), some (.inl x3), some (.inl x4), some (.inl x5)] [] M := by
  refine x_iconst 1 rfl (by decide) ?_
  exact x_goto rfl k
theorem uX3_fixLeast_88 {d : Nat} {Q : yM → Prop} {M : yM} {x1 : Int} {x2 : Int} {x3 : Int} {x4 : Int} {x5 : Int} (k : XW kX3_fixLeast d none (wQv Q) 89 [some (.inr (.inr 65)), some (.inl x1), some (.inl x2), some (.inl x3), some (.inl x4), some (.inl x5)] [.inl 0] M) : XW kX3_fixLeast d none (wQv Q) 88 [some (.inr (.inr 65)), some (.inl x1), some (.inl x2), some (.inl x3), some (.inl x4), some (.inl x5)] [] M := by
  refine x_iconst 0 rfl (by decide) ?_
  exact k
theorem uX3_fixLeast_89 {d : Nat} {Q : yM → Prop} {M : yM} {x1 : Int} {x2 : Int} {x3 : Int} {x4 : Int} {x5 : Int} {s0 : Int} (k : XW kX3_fixLeast d none (wQv Q) 91 [some (.inr (.inr 65)), some (.inl x1), some (.inl x2), some (.inl x3), some (.inl s0), some (.inl x5)] [] M) : XW kX3_fixLeast d none (wQv Q) 89 [some (.inr (.inr 65)), some (.inl x1), some (.inl x2), some (.inl x3), some (.inl x4), some (.inl x5)] [.inl s0] M := by
  refine x_istore rfl (Nat.le_of_ble_eq_true rfl) rfl ?_
  exact k
theorem uX3_fixLeast_91 {d : Nat} {Q : yM → Prop} {M : yM} {x1 : Int} {x2 : Int} {x3 : Int} {x4 : Int} {x5 : Int} (k : XW kX3_fixLeast d none (wQv Q) 23 [some (.inr (.inr 65)), some (.inl x1), some (.inl x2), some (.inl x3), some (.inl x4), some (.inl (x5 + 1))] [] M) : XW kX3_fixLeast d none (wQv Q) 91 [some (.inr (.inr 65)), some (.inl x1), some (.inl x2), some (.inl x3), some (.inl x4), some (.inl x5)] [] M := by
  refine x_iinc 1 rfl (by decide) rfl rfl ?_
  exact x_goto rfl k
theorem uX3_fixLeast_97 {d : Nat} {Q : yM → Prop} {M : yM} {x1 : Int} {x2 : Int} {x3 : Int} {x4 : Int} {x5 : Int} (h1 : -2147483648 ≤ x4 ∧ x4 < 2147483648) (kt : x4 = 0 → XW kX3_fixLeast d none (wQv Q) 120 [some (.inr (.inr 65)), some (.inl x1), some (.inl x2), some (.inl x3), some (.inl x4), some (.inl x5)] [] M) (kf : x4 ≠ 0 → XW kX3_fixLeast d none (wQv Q) 102 [some (.inr (.inr 65)), some (.inl x1), some (.inl x2), some (.inl x3), some (.inl x4), some (.inl x5)] [] M) : XW kX3_fixLeast d none (wQv Q) 97 [some (.inr (.inr 65)), some (.inl x1), some (.inl x2), some (.inl x3), some (.inl x4), some (.inl x5)] [] M := by
  refine x_iload rfl rfl ?_
  exact x_ifeq rfl h1 kt kf
theorem uX3_fixLeast_102 {d : Nat} {Q : yM → Prop} {M : yM} {x1 : Int} {x2 : Int} {x3 : Int} {x4 : Int} {x5 : Int} (k : ∀ M', M' = (cpy M 54 67 0 0 64) → XW kX3_fixLeast d none (wQv Q) 120 [some (.inr (.inr 65)), some (.inl x1), some (.inl x2), some (.inl x3), some (.inl x4), some (.inl x5)] [] M') : XW kX3_fixLeast d none (wQv Q) 102 [some (.inr (.inr 65)), some (.inl x1), some (.inl x2), some (.inl x3), some (.inl x4), some (.inl x5)] [] M := by
  refine x_aload_n rfl rfl ?_
  refine x_getR rfl sh65 rfl ?_
  refine x_getR rfl sh22 rfl ?_
  refine x_iconst 0 rfl (by decide) ?_
  refine x_aload_n rfl rfl ?_
  refine x_getR rfl sh65 rfl ?_
  refine x_iconst 0 rfl (by decide) ?_
  refine x_bipush 64 rfl (by decide) ?_
  refine x_cpy rfl ⟨sh54, Nat.le_of_ble_eq_true rfl⟩ ⟨sh67, Nat.le_of_ble_eq_true rfl⟩ (by decide) (Nat.le_of_ble_eq_true rfl) ?_
  exact k _ rfl
theorem uX3_fixLeast_120 {d : Nat} {Q : yM → Prop} {M : yM} {x1 : Int} {x2 : Int} {x3 : Int} {x4 : Int} {x5 : Int} (h1 : 0 ≤ x1 ∧ x1 < 64) (k : XCi d 116 [.inl (ld M 67 x1)] M (fun v M' => XW kX3_fixLeast (d + 1) none (wQv Q) 141 [some (.inr (.inr 65)), some (.inl x1), some (.inl x2), some (.inl x3), some (.inl x4), some (.inl x5)] [.inl v, .inl x1, .inr (.inr 68), .inr (.inr 21)] M')) : XW kX3_fixLeast (d + 1) none (wQv Q) 120 [some (.inr (.inr 65)), some (.inl x1), some (.inl x2), some (.inl x3), some (.inl x4), some (.inl x5)] [] M := by
  refine x_aload_n rfl rfl ?_
  refine x_getR rfl sh65 rfl ?_
  refine x_getR rfl sh22 rfl ?_
  refine x_aload_n rfl rfl ?_
  refine x_getR rfl sh65 rfl ?_
  refine x_iload_n rfl rfl ?_
  refine x_aload_n rfl rfl ?_
  refine x_getR rfl sh65 rfl ?_
  refine x_iload_n rfl rfl ?_
  refine x_iaload rfl ⟨sh67, Nat.le_of_ble_eq_true rfl⟩ h1 ?_
  exact x_calli (args := [.inl (ld M 67 x1)]) rfl rfl rfl k
theorem uX3_fixLeast_141 {d : Nat} {Q : yM → Prop} {M : yM} {x1 : Int} {x2 : Int} {x3 : Int} {x4 : Int} {x5 : Int} {s0 : Int} {s1 : Int} (k : XCv d 58 [.inr (.inr 21), .inr (.inr 68), .inl s1, .inl s0] M (fun M' => XW kX3_fixLeast (d + 1) none (wQv Q) 144 [some (.inr (.inr 65)), some (.inl x1), some (.inl x2), some (.inl x3), some (.inl x4), some (.inl x5)] [] M')) : XW kX3_fixLeast (d + 1) none (wQv Q) 141 [some (.inr (.inr 65)), some (.inl x1), some (.inl x2), some (.inl x3), some (.inl x4), some (.inl x5)] [.inl s0, .inl s1, .inr (.inr 68), .inr (.inr 21)] M := by
  exact x_callv (args := [.inr (.inr 21), .inr (.inr 68), .inl s1, .inl s0]) rfl rfl rfl k
theorem uX3_fixLeast_144 {d : Nat} {Q : yM → Prop} {M : yM} {x1 : Int} {x2 : Int} {x3 : Int} {x4 : Int} {x5 : Int} (k : Q M) : XW kX3_fixLeast d none (wQv Q) 144 [some (.inr (.inr 65)), some (.inl x1), some (.inl x2), some (.inl x3), some (.inl x4), some (.inl x5)] [] M := by
  exact x_return rfl k
theorem eX4_forget {d : Nat} {Q : yM → Prop} {M : yM}   (h : XW kX4_forget d none (wQv Q) 0 [some (.inr (.inr 56)), none] [] M) : XCv d 26 [.inr (.inr 56)] M Q :=
  XC.ofW (Mm := (yX4_forget, cX4_forget, 2, none, 5, kX4_forget)) rfl (rcv_ok sh56) rfl rfl h
theorem uX4_forget_0 {d : Nat} {Q : yM → Prop} {M : yM}  (k : XW kX4_forget d none (wQv Q) 2 [some (.inr (.inr 56)), some (.inl 0)] [] M) : XW kX4_forget d none (wQv Q) 0 [some (.inr (.inr 56)), none] [] M := by
  refine x_iconst 0 rfl (by decide) ?_
  refine x_istore_n rfl (Nat.le_of_ble_eq_true rfl) rfl ?_
  exact k
theorem uX4_forget_2 {d : Nat} {Q : yM → Prop} {M : yM} {x1 : Int} (h1 : -2147483648 ≤ x1 ∧ x1 < 2147483648) (kt : x1 ≥ 3 → XW kX4_forget d none (wQv Q) 20 [some (.inr (.inr 56)), some (.inl x1)] [] M) (kf : x1 < 3 → XW kX4_forget d none (wQv Q) 7 [some (.inr (.inr 56)), some (.inl x1)] [] M) : XW kX4_forget d none (wQv Q) 2 [some (.inr (.inr 56)), some (.inl x1)] [] M := by
  refine x_iload_n rfl rfl ?_
  refine x_iconst 3 rfl (by decide) ?_
  exact x_icmpge rfl h1 (by decide) kt kf
theorem uX4_forget_7 {d : Nat} {Q : yM → Prop} {M : yM} {x1 : Int} (h1 : 0 ≤ x1 ∧ x1 < 3) (k : ∀ M', M' = (put M 62 x1 0) → XW kX4_forget d none (wQv Q) 14 [some (.inr (.inr 56)), some (.inl x1)] [] M') : XW kX4_forget d none (wQv Q) 7 [some (.inr (.inr 56)), some (.inl x1)] [] M := by
  refine x_aload_n rfl rfl ?_
  refine x_getR rfl sh56 rfl ?_
  refine x_iload_n rfl rfl ?_
  refine x_iconst 0 rfl (by decide) ?_
  refine x_bastore rfl ⟨sh62, Nat.le_of_ble_eq_true rfl⟩ h1 (by decide) ?_
  exact k _ rfl
theorem uX4_forget_14 {d : Nat} {Q : yM → Prop} {M : yM} {x1 : Int} (k : XW kX4_forget d none (wQv Q) 2 [some (.inr (.inr 56)), some (.inl (x1 + 1))] [] M) : XW kX4_forget d none (wQv Q) 14 [some (.inr (.inr 56)), some (.inl x1)] [] M := by
  refine x_iinc 1 rfl (by decide) rfl rfl ?_
  exact x_goto rfl k
theorem uX4_forget_20 {d : Nat} {Q : yM → Prop} {M : yM} {x1 : Int} (k : Q M) : XW kX4_forget d none (wQv Q) 20 [some (.inr (.inr 56)), some (.inl x1)] [] M := by
  exact x_return rfl k
theorem eX4_costOf {d : Nat} {Q : Int → yM → Prop} {M : yM} {x1 : Int}  (h : XW kX4_costOf d (some .int) (wQi Q) 0 [some (.inr (.inr 56)), some (.inl x1)] [] M) : XCi d 27 [.inr (.inr 56), .inl x1] M Q :=
  XC.ofW (Mm := (yX4_costOf, cX4_costOf, 2, (some .int), 5, kX4_costOf)) rfl (rcv_ok sh56) rfl rfl h
theorem uX4_costOf_0 {d : Nat} {Q : Int → yM → Prop} {M : yM} {x1 : Int} (h1 : -2147483648 ≤ x1 ∧ x1 < 2147483648) (kt : x1 ≠ (-1) → XW kX4_costOf d (some .int) (wQi Q) 9 [some (.inr (.inr 56)), some (.inl x1)] [] M) (kf : x1 = (-1) → XW kX4_costOf d (some .int) (wQi Q) 5 [some (.inr (.inr 56)), some (.inl x1)] [] M) : XW kX4_costOf d (some .int) (wQi Q) 0 [some (.inr (.inr 56)), some (.inl x1)] [] M := by
  refine x_iload_n rfl rfl ?_
  refine x_iconst (-1) rfl (by decide) ?_
  exact x_icmpne rfl h1 (by decide) kt kf
theorem uX4_costOf_5 {d : Nat} {Q : Int → yM → Prop} {M : yM} {x1 : Int} (k : XW kX4_costOf d (some .int) (wQi Q) 15 [some (.inr (.inr 56)), some (.inl x1)] [.inl 0] M) : XW kX4_costOf d (some .int) (wQi Q) 5 [some (.inr (.inr 56)), some (.inl x1)] [] M := by
  refine x_iconst 0 rfl (by decide) ?_
  exact x_goto rfl k
theorem uX4_costOf_9 {d : Nat} {Q : Int → yM → Prop} {M : yM} {x1 : Int} (h1 : 0 ≤ x1 ∧ x1 < 3) (k : XW kX4_costOf d (some .int) (wQi Q) 15 [some (.inr (.inr 56)), some (.inl x1)] [.inl (ld M 61 x1)] M) : XW kX4_costOf d (some .int) (wQi Q) 9 [some (.inr (.inr 56)), some (.inl x1)] [] M := by
  refine x_aload_n rfl rfl ?_
  refine x_getR rfl sh56 rfl ?_
  refine x_iload_n rfl rfl ?_
  refine x_iaload rfl ⟨sh61, Nat.le_of_ble_eq_true rfl⟩ h1 ?_
  exact k
theorem uX4_costOf_15 {d : Nat} {Q : Int → yM → Prop} {M : yM} {x1 : Int} {s0 : Int} (k : Q s0 M) : XW kX4_costOf d (some .int) (wQi Q) 15 [some (.inr (.inr 56)), some (.inl x1)] [.inl s0] M := by
  exact x_ireturn rfl k
theorem eX4_cellsBy {d : Nat} {Q : Nat → yM → Prop} {M : yM} {x1 : Int}  (h : XW kX4_cellsBy d (some (.array .int)) (wQr Q) 0 [some (.inr (.inr 56)), some (.inl x1), none] [] M) : XCr d 28 [.inr (.inr 56), .inl x1] M Q :=
  XC.ofW (Mm := (yX4_cellsBy, cX4_cellsBy, 3, (some (.array .int)), 5, kX4_cellsBy)) rfl (rcv_ok sh56) rfl rfl h
theorem uX4_cellsBy_0 {d : Nat} {Q : Nat → yM → Prop} {M : yM} {x1 : Int} (h1 : -2147483648 ≤ x1 ∧ x1 < 2147483648) (kt : x1 ≠ (-1) → XW kX4_cellsBy d (some (.array .int)) (wQr Q) 13 [some (.inr (.inr 56)), some (.inl x1), none] [] M) (kf : x1 = (-1) → XW kX4_cellsBy d (some (.array .int)) (wQr Q) 5 [some (.inr (.inr 56)), some (.inl x1), none] [] M) : XW kX4_cellsBy d (some (.array .int)) (wQr Q) 0 [some (.inr (.inr 56)), some (.inl x1), none] [] M := by
  refine x_iload_n rfl rfl ?_
  refine x_iconst (-1) rfl (by decide) ?_
  exact x_icmpne rfl h1 (by decide) kt kf
theorem uX4_cellsBy_5 {d : Nat} {Q : Nat → yM → Prop} {M : yM} {x1 : Int} (k : Q 20 M) : XW kX4_cellsBy d (some (.array .int)) (wQr Q) 5 [some (.inr (.inr 56)), some (.inl x1), none] [] M := by
  refine x_aload_n rfl rfl ?_
  refine x_getR rfl sh56 rfl ?_
  refine x_getR rfl sh19 rfl ?_
  exact x_areturn rfl k
theorem uX4_cellsBy_13 {d : Nat} {Q : Nat → yM → Prop} {M : yM} {x1 : Int} (h1 : 0 ≤ x1 ∧ x1 < 3) (h2 : 0 ≤ x1 ∧ x1 < 3) (kt : (ld M 62 x1) ≠ 0 → XW kX4_cellsBy d (some (.array .int)) (wQr Q) 87 [some (.inr (.inr 56)), some (.inl x1), some (.inr (.inr (58 + (x1).toNat)))] [] M) (kf : (ld M 62 x1) = 0 → XW kX4_cellsBy d (some (.array .int)) (wQr Q) 29 [some (.inr (.inr 56)), some (.inl x1), some (.inr (.inr (58 + (x1).toNat)))] [] M) : XW kX4_cellsBy d (some (.array .int)) (wQr Q) 13 [some (.inr (.inr 56)), some (.inl x1), none] [] M := by
  refine x_aload_n rfl rfl ?_
  refine x_getR rfl sh56 rfl ?_
  refine x_iload_n rfl rfl ?_
  refine x_aaload rfl ⟨sh57, Nat.le_of_ble_eq_true rfl⟩ (by decide) h1 (yref57 h1) ?_
  refine x_astore_n rfl (Nat.le_of_ble_eq_true rfl) rfl ?_
  refine x_aload_n rfl rfl ?_
  refine x_getR rfl sh56 rfl ?_
  refine x_iload_n rfl rfl ?_
  refine x_baload rfl ⟨sh62, Nat.le_of_ble_eq_true rfl⟩ h2 ?_
  exact x_ifne rfl (rng_ld _ _ _) kt kf
theorem uX4_cellsBy_29 {d : Nat} {Q : Nat → yM → Prop} {M : yM} {x1 : Int} {x2 : Nat} (h1 : arrSh x2 64) (k : ∀ M', M' = (cpy M 20 x2 0 0 64) → XW kX4_cellsBy d (some (.array .int)) (wQr Q) 44 [some (.inr (.inr 56)), some (.inl x1), some (.inr (.inr x2))] [] M') : XW kX4_cellsBy d (some (.array .int)) (wQr Q) 29 [some (.inr (.inr 56)), some (.inl x1), some (.inr (.inr x2))] [] M := by
  refine x_aload_n rfl rfl ?_
  refine x_getR rfl sh56 rfl ?_
  refine x_getR rfl sh19 rfl ?_
  refine x_iconst 0 rfl (by decide) ?_
  refine x_aload_n rfl rfl ?_
  refine x_iconst 0 rfl (by decide) ?_
  refine x_bipush 64 rfl (by decide) ?_
  refine x_cpy rfl ⟨sh20, Nat.le_of_ble_eq_true rfl⟩ h1 (by decide) (Nat.le_of_ble_eq_true rfl) ?_
  exact k _ rfl
theorem uX4_cellsBy_44 {d : Nat} {Q : Nat → yM → Prop} {M : yM} {x1 : Int} {x2 : Nat} (h1 : -2147483648 ≤ x1 ∧ x1 < 2147483648) (kt : x1 ≠ 0 → XW kX4_cellsBy d (some (.array .int)) (wQr Q) 61 [some (.inr (.inr 56)), some (.inl x1), some (.inr (.inr x2))] [.inl x1, .inr (.inr 61)] M) (kf : x1 = 0 → XW kX4_cellsBy d (some (.array .int)) (wQr Q) 53 [some (.inr (.inr 56)), some (.inl x1), some (.inr (.inr x2))] [.inl x1, .inr (.inr 61)] M) : XW kX4_cellsBy d (some (.array .int)) (wQr Q) 44 [some (.inr (.inr 56)), some (.inl x1), some (.inr (.inr x2))] [] M := by
  refine x_aload_n rfl rfl ?_
  refine x_getR rfl sh56 rfl ?_
  refine x_iload_n rfl rfl ?_
  refine x_iload_n rfl rfl ?_
  exact x_ifne rfl h1 kt kf
theorem uX4_cellsBy_53 {d : Nat} {Q : Nat → yM → Prop} {M : yM} {x1 : Int} {x2 : Nat} {s0 : Int} (k : XCi d 29 [.inr (.inr 56), .inr (.inr x2)] M (fun v M' => XW kX4_cellsBy (d + 1) (some (.array .int)) (wQr Q) 58 [some (.inr (.inr 56)), some (.inl x1), some (.inr (.inr x2))] [.inl v, .inl s0, .inr (.inr 61)] M')) : XW kX4_cellsBy (d + 1) (some (.array .int)) (wQr Q) 53 [some (.inr (.inr 56)), some (.inl x1), some (.inr (.inr x2))] [.inl s0, .inr (.inr 61)] M := by
  refine x_aload_n rfl rfl ?_
  refine x_aload_n rfl rfl ?_
  exact x_calli (args := [.inr (.inr 56), .inr (.inr x2)]) rfl rfl rfl k
theorem uX4_cellsBy_58 {d : Nat} {Q : Nat → yM → Prop} {M : yM} {x1 : Int} {x2 : Nat} {s0 : Int} {s1 : Int} (k : XW kX4_cellsBy d (some (.array .int)) (wQr Q) 79 [some (.inr (.inr 56)), some (.inl x1), some (.inr (.inr x2))] [.inl s0, .inl s1, .inr (.inr 61)] M) : XW kX4_cellsBy d (some (.array .int)) (wQr Q) 58 [some (.inr (.inr 56)), some (.inl x1), some (.inr (.inr x2))] [.inl s0, .inl s1, .inr (.inr 61)] M := by
  exact x_goto rfl k
theorem uX4_cellsBy_61 {d : Nat} {Q : Nat → yM → Prop} {M : yM} {x1 : Int} {x2 : Nat} {s0 : Int} (h1 : -2147483648 ≤ x1 ∧ x1 < 2147483648) (kt : x1 ≠ 1 → XW kX4_cellsBy d (some (.array .int)) (wQr Q) 74 [some (.inr (.inr 56)), some (.inl x1), some (.inr (.inr x2))] [.inl s0, .inr (.inr 61)] M) (kf : x1 = 1 → XW kX4_cellsBy d (some (.array .int)) (wQr Q) 66 [some (.inr (.inr 56)), some (.inl x1), some (.inr (.inr x2))] [.inl s0, .inr (.inr 61)] M) : XW kX4_cellsBy d (some (.array .int)) (wQr Q) 61 [some (.inr (.inr 56)), some (.inl x1), some (.inr (.inr x2))] [.inl s0, .inr (.inr 61)] M := by
  refine x_iload_n rfl rfl ?_
  refine x_iconst 1 rfl (by decide) ?_
  exact x_icmpne rfl h1 (by decide) kt kf
theorem uX4_cellsBy_66 {d : Nat} {Q : Nat → yM → Prop} {M : yM} {x1 : Int} {x2 : Nat} {s0 : Int} (k : XCi d 30 [.inr (.inr 56), .inr (.inr x2)] M (fun v M' => XW kX4_cellsBy (d + 1) (some (.array .int)) (wQr Q) 71 [some (.inr (.inr 56)), some (.inl x1), some (.inr (.inr x2))] [.inl v, .inl s0, .inr (.inr 61)] M')) : XW kX4_cellsBy (d + 1) (some (.array .int)) (wQr Q) 66 [some (.inr (.inr 56)), some (.inl x1), some (.inr (.inr x2))] [.inl s0, .inr (.inr 61)] M := by
  refine x_aload_n rfl rfl ?_
  refine x_aload_n rfl rfl ?_
  exact x_calli (args := [.inr (.inr 56), .inr (.inr x2)]) rfl rfl rfl k
theorem uX4_cellsBy_71 {d : Nat} {Q : Nat → yM → Prop} {M : yM} {x1 : Int} {x2 : Nat} {s0 : Int} {s1 : Int} (k : XW kX4_cellsBy d (some (.array .int)) (wQr Q) 79 [some (.inr (.inr 56)), some (.inl x1), some (.inr (.inr x2))] [.inl s0, .inl s1, .inr (.inr 61)] M) : XW kX4_cellsBy d (some (.array .int)) (wQr Q) 71 [some (.inr (.inr 56)), some (.inl x1), some (.inr (.inr x2))] [.inl s0, .inl s1, .inr (.inr 61)] M := by
  exact x_goto rfl k
theorem uX4_cellsBy_74 {d : Nat} {Q : Nat → yM → Prop} {M : yM} {x1 : Int} {x2 : Nat} {s0 : Int} (k : XCi d 32 [.inr (.inr 56), .inr (.inr x2)] M (fun v M' => XW kX4_cellsBy (d + 1) (some (.array .int)) (wQr Q) 79 [some (.inr (.inr 56)), some (.inl x1), some (.inr (.inr x2))] [.inl v, .inl s0, .inr (.inr 61)] M')) : XW kX4_cellsBy (d + 1) (some (.array .int)) (wQr Q) 74 [some (.inr (.inr 56)), some (.inl x1), some (.inr (.inr x2))] [.inl s0, .inr (.inr 61)] M := by
  refine x_aload_n rfl rfl ?_
  refine x_aload_n rfl rfl ?_
  exact x_calli (args := [.inr (.inr 56), .inr (.inr x2)]) rfl rfl rfl k
theorem uX4_cellsBy_79 {d : Nat} {Q : Nat → yM → Prop} {M : yM} {x1 : Int} {x2 : Nat} {s0 : Int} {s1 : Int} (h1 : 0 ≤ s1 ∧ s1 < 3) (k : ∀ M', M' = (put M 61 s1 s0) → XW kX4_cellsBy d (some (.array .int)) (wQr Q) 80 [some (.inr (.inr 56)), some (.inl x1), some (.inr (.inr x2))] [] M') : XW kX4_cellsBy d (some (.array .int)) (wQr Q) 79 [some (.inr (.inr 56)), some (.inl x1), some (.inr (.inr x2))] [.inl s0, .inl s1, .inr (.inr 61)] M := by
  refine x_iastore rfl ⟨sh61, Nat.le_of_ble_eq_true rfl⟩ h1  ?_
  exact k _ rfl
theorem uX4_cellsBy_80 {d : Nat} {Q : Nat → yM → Prop} {M : yM} {x1 : Int} {x2 : Nat} (h1 : 0 ≤ x1 ∧ x1 < 3) (k : ∀ M', M' = (put M 62 x1 1) → XW kX4_cellsBy d (some (.array .int)) (wQr Q) 87 [some (.inr (.inr 56)), some (.inl x1), some (.inr (.inr x2))] [] M') : XW kX4_cellsBy d (some (.array .int)) (wQr Q) 80 [some (.inr (.inr 56)), some (.inl x1), some (.inr (.inr x2))] [] M := by
  refine x_aload_n rfl rfl ?_
  refine x_getR rfl sh56 rfl ?_
  refine x_iload_n rfl rfl ?_
  refine x_iconst 1 rfl (by decide) ?_
  refine x_bastore rfl ⟨sh62, Nat.le_of_ble_eq_true rfl⟩ h1 (by decide) ?_
  exact k _ rfl
theorem uX4_cellsBy_87 {d : Nat} {Q : Nat → yM → Prop} {M : yM} {x1 : Int} {x2 : Nat} (k : Q x2 M) : XW kX4_cellsBy d (some (.array .int)) (wQr Q) 87 [some (.inr (.inr 56)), some (.inl x1), some (.inr (.inr x2))] [] M := by
  refine x_aload_n rfl rfl ?_
  exact x_areturn rfl k
theorem eX4_once {d : Nat} {Q : Int → yM → Prop} {M : yM} {x1 : Nat}  (h : XW kX4_once d (some .int) (wQi Q) 0 [some (.inr (.inr 56)), some (.inr (.inr x1)), none, none, none, none] [] M) : XCi d 29 [.inr (.inr 56), .inr (.inr x1)] M Q :=
  XC.ofW (Mm := (yX4_once, cX4_once, 6, (some .int), 5, kX4_once)) rfl (rcv_ok sh56) rfl rfl h
theorem uX4_once_0 {d : Nat} {Q : Int → yM → Prop} {M : yM} {x1 : Nat} (k : XCi d 117 [.inr (.inr x1), .inl (ld M 19 0)] M (fun v M' => XW kX4_once (d + 1) (some .int) (wQi Q) 13 [some (.inr (.inr 56)), some (.inr (.inr x1)), some (.inl (ld M 19 0)), none, none, none] [.inl v] M')) : XW kX4_once (d + 1) (some .int) (wQi Q) 0 [some (.inr (.inr 56)), some (.inr (.inr x1)), none, none, none, none] [] M := by
  refine x_aload_n rfl rfl ?_
  refine x_getR rfl sh56 rfl ?_
  refine x_getI rfl sh19 rfl ?_
  refine x_istore_n rfl (Nat.le_of_ble_eq_true rfl) rfl ?_
  refine x_aload_n rfl rfl ?_
  refine x_iload_n rfl rfl ?_
  exact x_calli (args := [.inr (.inr x1), .inl (ld M 19 0)]) rfl rfl rfl k
theorem uX4_once_13 {d : Nat} {Q : Int → yM → Prop} {M : yM} {x1 : Nat} {x2 : Int} {s0 : Int} (h1 : -2147483648 ≤ s0 ∧ s0 < 2147483648) (kt : s0 = 0 → XW kX4_once d (some .int) (wQi Q) 18 [some (.inr (.inr 56)), some (.inr (.inr x1)), some (.inl x2), none, none, none] [] M) (kf : s0 ≠ 0 → XW kX4_once d (some .int) (wQi Q) 16 [some (.inr (.inr 56)), some (.inr (.inr x1)), some (.inl x2), none, none, none] [] M) : XW kX4_once d (some .int) (wQi Q) 13 [some (.inr (.inr 56)), some (.inr (.inr x1)), some (.inl x2), none, none, none] [.inl s0] M := by
  exact x_ifeq rfl h1 kt kf
theorem uX4_once_16 {d : Nat} {Q : Int → yM → Prop} {M : yM} {x1 : Nat} {x2 : Int} (k : Q 1 M) : XW kX4_once d (some .int) (wQi Q) 16 [some (.inr (.inr 56)), some (.inr (.inr x1)), some (.inl x2), none, none, none] [] M := by
  refine x_iconst 1 rfl (by decide) ?_
  exact x_ireturn rfl k
theorem uX4_once_18 {d : Nat} {Q : Int → yM → Prop} {M : yM} {x1 : Nat} {x2 : Int} (k : XW kX4_once d (some .int) (wQi Q) 20 [some (.inr (.inr 56)), some (.inr (.inr x1)), some (.inl x2), some (.inl 0), none, none] [] M) : XW kX4_once d (some .int) (wQi Q) 18 [some (.inr (.inr 56)), some (.inr (.inr x1)), some (.inl x2), none, none, none] [] M := by
  refine x_iconst 0 rfl (by decide) ?_
  refine x_istore_n rfl (Nat.le_of_ble_eq_true rfl) rfl ?_
  exact k
theorem uX4_once_20 {d : Nat} {Q : Int → yM → Prop} {M : yM} {x1 : Nat} {x2 : Int} {x3 : Int} {wx4 : Option yV} {wx5 : Option yV} (h1 : -2147483648 ≤ x3 ∧ x3 < 2147483648) (h2 : -2147483648 ≤ x2 ∧ x2 < 2147483648) (kt : x3 ≥ x2 → XW kX4_once d (some .int) (wQi Q) 94 [some (.inr (.inr 56)), some (.inr (.inr x1)), some (.inl x2), some (.inl x3), wx4, wx5] [] M) (kf : x3 < x2 → XW kX4_once d (some .int) (wQi Q) 25 [some (.inr (.inr 56)), some (.inr (.inr x1)), some (.inl x2), some (.inl x3), wx4, wx5] [] M) : XW kX4_once d (some .int) (wQi Q) 20 [some (.inr (.inr 56)), some (.inr (.inr x1)), some (.inl x2), some (.inl x3), wx4, wx5] [] M := by
  refine x_iload_n rfl rfl ?_
  refine x_iload_n rfl rfl ?_
  exact x_icmpge rfl h1 h2 kt kf
theorem uX4_once_25 {d : Nat} {Q : Int → yM → Prop} {M : yM} {x1 : Nat} {x2 : Int} {x3 : Int} {wx4 : Option yV} {wx5 : Option yV} (k : XW kX4_once d (some .int) (wQi Q) 28 [some (.inr (.inr 56)), some (.inr (.inr x1)), some (.inl x2), some (.inl x3), some (.inl 0), wx5] [] M) : XW kX4_once d (some .int) (wQi Q) 25 [some (.inr (.inr 56)), some (.inr (.inr x1)), some (.inl x2), some (.inl x3), wx4, wx5] [] M := by
  refine x_iconst 0 rfl (by decide) ?_
  refine x_istore rfl (Nat.le_of_ble_eq_true rfl) rfl ?_
  exact k
theorem uX4_once_28 {d : Nat} {Q : Int → yM → Prop} {M : yM} {x1 : Nat} {x2 : Int} {x3 : Int} {x4 : Int} {wx5 : Option yV} (h1 : -2147483648 ≤ x4 ∧ x4 < 2147483648) (h2 : -2147483648 ≤ x2 ∧ x2 < 2147483648) (kt : x4 ≥ x2 → XW kX4_once d (some .int) (wQi Q) 88 [some (.inr (.inr 56)), some (.inr (.inr x1)), some (.inl x2), some (.inl x3), some (.inl x4), wx5] [] M) (kf : x4 < x2 → XW kX4_once d (some .int) (wQi Q) 34 [some (.inr (.inr 56)), some (.inr (.inr x1)), some (.inl x2), some (.inl x3), some (.inl x4), wx5] [] M) : XW kX4_once d (some .int) (wQi Q) 28 [some (.inr (.inr 56)), some (.inr (.inr x1)), some (.inl x2), some (.inl x3), some (.inl x4), wx5] [] M := by
  refine x_iload rfl rfl ?_
  refine x_iload_n rfl rfl ?_
  exact x_icmpge rfl h1 h2 kt kf
theorem uX4_once_34 {d : Nat} {Q : Int → yM → Prop} {M : yM} {x1 : Nat} {x2 : Int} {x3 : Int} {x4 : Int} {wx5 : Option yV} (k : XW kX4_once d (some .int) (wQi Q) 39 [some (.inr (.inr 56)), some (.inr (.inr x1)), some (.inl x2), some (.inl x3), some (.inl x4), some (.inl (x3 + 1))] [] M) : XW kX4_once d (some .int) (wQi Q) 34 [some (.inr (.inr 56)), some (.inr (.inr x1)), some (.inl x2), some (.inl x3), some (.inl x4), wx5] [] M := by
  refine x_iload_n rfl rfl ?_
  refine x_iconst 1 rfl (by decide) ?_
  refine x_iadd rfl ?_
  refine x_istore rfl (Nat.le_of_ble_eq_true rfl) rfl ?_
  exact k
theorem uX4_once_39 {d : Nat} {Q : Int → yM → Prop} {M : yM} {x1 : Nat} {x2 : Int} {x3 : Int} {x4 : Int} {x5 : Int} (h1 : -2147483648 ≤ x5 ∧ x5 < 2147483648) (h2 : -2147483648 ≤ x2 ∧ x2 < 2147483648) (kt : x5 ≥ x2 → XW kX4_once d (some .int) (wQi Q) 82 [some (.inr (.inr 56)), some (.inr (.inr x1)), some (.inl x2), some (.inl x3), some (.inl x4), some (.inl x5)] [] M) (kf : x5 < x2 → XW kX4_once d (some .int) (wQi Q) 45 [some (.inr (.inr 56)), some (.inr (.inr x1)), some (.inl x2), some (.inl x3), some (.inl x4), some (.inl x5)] [] M) : XW kX4_once d (some .int) (wQi Q) 39 [some (.inr (.inr 56)), some (.inr (.inr x1)), some (.inl x2), some (.inl x3), some (.inl x4), some (.inl x5)] [] M := by
  refine x_iload rfl rfl ?_
  refine x_iload_n rfl rfl ?_
  exact x_icmpge rfl h1 h2 kt kf
theorem uX4_once_45 {d : Nat} {Q : Int → yM → Prop} {M : yM} {x1 : Nat} {x2 : Int} {x3 : Int} {x4 : Int} {x5 : Int} (h1 : -2147483648 ≤ x4 ∧ x4 < 2147483648) (h2 : -2147483648 ≤ x3 ∧ x3 < 2147483648) (kt : x4 = x3 → XW kX4_once d (some .int) (wQi Q) 76 [some (.inr (.inr 56)), some (.inr (.inr x1)), some (.inl x2), some (.inl x3), some (.inl x4), some (.inl x5)] [] M) (kf : x4 ≠ x3 → XW kX4_once d (some .int) (wQi Q) 51 [some (.inr (.inr 56)), some (.inr (.inr x1)), some (.inl x2), some (.inl x3), some (.inl x4), some (.inl x5)] [] M) : XW kX4_once d (some .int) (wQi Q) 45 [some (.inr (.inr 56)), some (.inr (.inr x1)), some (.inl x2), some (.inl x3), some (.inl x4), some (.inl x5)] [] M := by
  refine x_iload rfl rfl ?_
  refine x_iload_n rfl rfl ?_
  exact x_icmpeq rfl h1 h2 kt kf
theorem uX4_once_51 {d : Nat} {Q : Int → yM → Prop} {M : yM} {x1 : Nat} {x2 : Int} {x3 : Int} {x4 : Int} {x5 : Int} (h1 : -2147483648 ≤ x4 ∧ x4 < 2147483648) (h2 : -2147483648 ≤ x5 ∧ x5 < 2147483648) (kt : x4 = x5 → XW kX4_once d (some .int) (wQi Q) 76 [some (.inr (.inr 56)), some (.inr (.inr x1)), some (.inl x2), some (.inl x3), some (.inl x4), some (.inl x5)] [] M) (kf : x4 ≠ x5 → XW kX4_once d (some .int) (wQi Q) 58 [some (.inr (.inr 56)), some (.inr (.inr x1)), some (.inl x2), some (.inl x3), some (.inl x4), some (.inl x5)] [] M) : XW kX4_once d (some .int) (wQi Q) 51 [some (.inr (.inr 56)), some (.inr (.inr x1)), some (.inl x2), some (.inl x3), some (.inl x4), some (.inl x5)] [] M := by
  refine x_iload rfl rfl ?_
  refine x_iload rfl rfl ?_
  exact x_icmpeq rfl h1 h2 kt kf
theorem uX4_once_58 {d : Nat} {Q : Int → yM → Prop} {M : yM} {x1 : Nat} {x2 : Int} {x3 : Int} {x4 : Int} {x5 : Int} (k : XCi d 56 [.inr (.inr 21), .inr (.inr x1), .inl x3, .inl x4, .inl x5] M (fun v M' => XW kX4_once (d + 1) (some .int) (wQi Q) 71 [some (.inr (.inr 56)), some (.inr (.inr x1)), some (.inl x2), some (.inl x3), some (.inl x4), some (.inl x5)] [.inl v] M')) : XW kX4_once (d + 1) (some .int) (wQi Q) 58 [some (.inr (.inr 56)), some (.inr (.inr x1)), some (.inl x2), some (.inl x3), some (.inl x4), some (.inl x5)] [] M := by
  refine x_aload_n rfl rfl ?_
  refine x_getR rfl sh56 rfl ?_
  refine x_aload_n rfl rfl ?_
  refine x_iload_n rfl rfl ?_
  refine x_iload rfl rfl ?_
  refine x_iload rfl rfl ?_
  exact x_calli (args := [.inr (.inr 21), .inr (.inr x1), .inl x3, .inl x4, .inl x5]) rfl rfl rfl k
theorem uX4_once_71 {d : Nat} {Q : Int → yM → Prop} {M : yM} {x1 : Nat} {x2 : Int} {x3 : Int} {x4 : Int} {x5 : Int} {s0 : Int} (h1 : -2147483648 ≤ s0 ∧ s0 < 2147483648) (kt : s0 ≠ 0 → XW kX4_once d (some .int) (wQi Q) 76 [some (.inr (.inr 56)), some (.inr (.inr x1)), some (.inl x2), some (.inl x3), some (.inl x4), some (.inl x5)] [] M) (kf : s0 = 0 → XW kX4_once d (some .int) (wQi Q) 74 [some (.inr (.inr 56)), some (.inr (.inr x1)), some (.inl x2), some (.inl x3), some (.inl x4), some (.inl x5)] [] M) : XW kX4_once d (some .int) (wQi Q) 71 [some (.inr (.inr 56)), some (.inr (.inr x1)), some (.inl x2), some (.inl x3), some (.inl x4), some (.inl x5)] [.inl s0] M := by
  exact x_ifne rfl h1 kt kf
theorem uX4_once_74 {d : Nat} {Q : Int → yM → Prop} {M : yM} {x1 : Nat} {x2 : Int} {x3 : Int} {x4 : Int} {x5 : Int} (k : Q 1 M) : XW kX4_once d (some .int) (wQi Q) 74 [some (.inr (.inr 56)), some (.inr (.inr x1)), some (.inl x2), some (.inl x3), some (.inl x4), some (.inl x5)] [] M := by
  refine x_iconst 1 rfl (by decide) ?_
  exact x_ireturn rfl k
theorem uX4_once_76 {d : Nat} {Q : Int → yM → Prop} {M : yM} {x1 : Nat} {x2 : Int} {x3 : Int} {x4 : Int} {x5 : Int} (k : XW kX4_once d (some .int) (wQi Q) 39 [some (.inr (.inr 56)), some (.inr (.inr x1)), some (.inl x2), some (.inl x3), some (.inl x4), some (.inl (x5 + 1))] [] M) : XW kX4_once d (some .int) (wQi Q) 76 [some (.inr (.inr 56)), some (.inr (.inr x1)), some (.inl x2), some (.inl x3), some (.inl x4), some (.inl x5)] [] M := by
  refine x_iinc 1 rfl (by decide) rfl rfl ?_
  exact x_goto rfl k
theorem uX4_once_82 {d : Nat} {Q : Int → yM → Prop} {M : yM} {x1 : Nat} {x2 : Int} {x3 : Int} {x4 : Int} {x5 : Int} (k : XW kX4_once d (some .int) (wQi Q) 28 [some (.inr (.inr 56)), some (.inr (.inr x1)), some (.inl x2), some (.inl x3), some (.inl (x4 + 1)), some (.inl x5)] [] M) : XW kX4_once d (some .int) (wQi Q) 82 [some (.inr (.inr 56)), some (.inr (.inr x1)), some (.inl x2), some (.inl x3), some (.inl x4), some (.inl x5)] [] M := by
  refine x_iinc 1 rfl (by decide) rfl rfl ?_
  exact x_goto rfl k
theorem uX4_once_88 {d : Nat} {Q : Int → yM → Prop} {M : yM} {x1 : Nat} {x2 : Int} {x3 : Int} {x4 : Int} {wx5 : Option yV} (k : XW kX4_once d (some .int) (wQi Q) 20 [some (.inr (.inr 56)), some (.inr (.inr x1)), some (.inl x2), some (.inl (x3 + 1)), some (.inl x4), wx5] [] M) : XW kX4_once d (some .int) (wQi Q) 88 [some (.inr (.inr 56)), some (.inr (.inr x1)), some (.inl x2), some (.inl x3), some (.inl x4), wx5] [] M := by
  refine x_iinc 1 rfl (by decide) rfl rfl ?_
  exact x_goto rfl k
theorem uX4_once_94 {d : Nat} {Q : Int → yM → Prop} {M : yM} {x1 : Nat} {x2 : Int} {x3 : Int} {wx4 : Option yV} {wx5 : Option yV} (k : Q 1 M) : XW kX4_once d (some .int) (wQi Q) 94 [some (.inr (.inr 56)), some (.inr (.inr x1)), some (.inl x2), some (.inl x3), wx4, wx5] [] M := by
  refine x_iconst 1 rfl (by decide) ?_
  exact x_ireturn rfl k
theorem eX4_full {d : Nat} {Q : Int → yM → Prop} {M : yM} {x1 : Nat}  (h : XW kX4_full d (some .int) (wQi Q) 0 [some (.inr (.inr 56)), some (.inr (.inr x1)), none, none, none] [] M) : XCi d 30 [.inr (.inr 56), .inr (.inr x1)] M Q :=
  XC.ofW (Mm := (yX4_full, cX4_full, 5, (some .int), 5, kX4_full)) rfl (rcv_ok sh56) rfl rfl h
theorem uX4_full_0 {d : Nat} {Q : Int → yM → Prop} {M : yM} {x1 : Nat} (k : XCi d 117 [.inr (.inr x1), .inl (ld M 19 0)] M (fun v M' => XW kX4_full (d + 1) (some .int) (wQi Q) 14 [some (.inr (.inr 56)), some (.inr (.inr x1)), some (.inl 10), none, none] [.inl v] M')) : XW kX4_full (d + 1) (some .int) (wQi Q) 0 [some (.inr (.inr 56)), some (.inr (.inr x1)), none, none, none] [] M := by
  refine x_bipush 10 rfl (by decide) ?_
  refine x_istore_n rfl (Nat.le_of_ble_eq_true rfl) rfl ?_
  refine x_aload_n rfl rfl ?_
  refine x_aload_n rfl rfl ?_
  refine x_getR rfl sh56 rfl ?_
  refine x_getI rfl sh19 rfl ?_
  exact x_calli (args := [.inr (.inr x1), .inl (ld M 19 0)]) rfl rfl rfl k
theorem uX4_full_14 {d : Nat} {Q : Int → yM → Prop} {M : yM} {x1 : Nat} {x2 : Int} {s0 : Int} (h1 : -2147483648 ≤ s0 ∧ s0 < 2147483648) (kt : s0 ≠ 0 → XW kX4_full d (some .int) (wQi Q) 21 [some (.inr (.inr 56)), some (.inr (.inr x1)), some (.inl x2), none, none] [] M) (kf : s0 = 0 → XW kX4_full d (some .int) (wQi Q) 17 [some (.inr (.inr 56)), some (.inr (.inr x1)), some (.inl x2), none, none] [] M) : XW kX4_full d (some .int) (wQi Q) 14 [some (.inr (.inr 56)), some (.inr (.inr x1)), some (.inl x2), none, none] [.inl s0] M := by
  exact x_ifne rfl h1 kt kf
theorem uX4_full_17 {d : Nat} {Q : Int → yM → Prop} {M : yM} {x1 : Nat} {x2 : Int} (k : XW kX4_full d (some .int) (wQi Q) 22 [some (.inr (.inr 56)), some (.inr (.inr x1)), some (.inl x2), none, none] [.inl 1] M) : XW kX4_full d (some .int) (wQi Q) 17 [some (.inr (.inr 56)), some (.inr (.inr x1)), some (.inl x2), none, none] [] M := by
  refine x_iconst 1 rfl (by decide) ?_
  exact x_goto rfl k
theorem uX4_full_21 {d : Nat} {Q : Int → yM → Prop} {M : yM} {x1 : Nat} {x2 : Int} (k : XW kX4_full d (some .int) (wQi Q) 22 [some (.inr (.inr 56)), some (.inr (.inr x1)), some (.inl x2), none, none] [.inl 0] M) : XW kX4_full d (some .int) (wQi Q) 21 [some (.inr (.inr 56)), some (.inr (.inr x1)), some (.inl x2), none, none] [] M := by
  refine x_iconst 0 rfl (by decide) ?_
  exact k
theorem uX4_full_22 {d : Nat} {Q : Int → yM → Prop} {M : yM} {x1 : Nat} {x2 : Int} {s0 : Int} (k : XW kX4_full d (some .int) (wQi Q) 26 [some (.inr (.inr 56)), some (.inr (.inr x1)), some (.inl x2), some (.inl s0), some (.inl 0)] [] M) : XW kX4_full d (some .int) (wQi Q) 22 [some (.inr (.inr 56)), some (.inr (.inr x1)), some (.inl x2), none, none] [.inl s0] M := by
  refine x_istore_n rfl (Nat.le_of_ble_eq_true rfl) rfl ?_
  refine x_iconst 0 rfl (by decide) ?_
  refine x_istore rfl (Nat.le_of_ble_eq_true rfl) rfl ?_
  exact k
theorem uX4_full_26 {d : Nat} {Q : Int → yM → Prop} {M : yM} {x1 : Nat} {x2 : Int} {x3 : Int} {x4 : Int} (h1 : -2147483648 ≤ x3 ∧ x3 < 2147483648) (kt : x3 = 0 → XW kX4_full d (some .int) (wQi Q) 92 [some (.inr (.inr 56)), some (.inr (.inr x1)), some (.inl x2), some (.inl x3), some (.inl x4)] [] M) (kf : x3 ≠ 0 → XW kX4_full d (some .int) (wQi Q) 30 [some (.inr (.inr 56)), some (.inr (.inr x1)), some (.inl x2), some (.inl x3), some (.inl x4)] [] M) : XW kX4_full d (some .int) (wQi Q) 26 [some (.inr (.inr 56)), some (.inr (.inr x1)), some (.inl x2), some (.inl x3), some (.inl x4)] [] M := by
  refine x_iload_n rfl rfl ?_
  exact x_ifeq rfl h1 kt kf
theorem uX4_full_30 {d : Nat} {Q : Int → yM → Prop} {M : yM} {x1 : Nat} {x2 : Int} {x3 : Int} {x4 : Int} (h1 : -2147483648 ≤ x4 ∧ x4 < 2147483648) (kt : x4 ≥ 1000 → XW kX4_full d (some .int) (wQi Q) 92 [some (.inr (.inr 56)), some (.inr (.inr x1)), some (.inl x2), some (.inl x3), some (.inl x4)] [] M) (kf : x4 < 1000 → XW kX4_full d (some .int) (wQi Q) 38 [some (.inr (.inr 56)), some (.inr (.inr x1)), some (.inl x2), some (.inl x3), some (.inl x4)] [] M) : XW kX4_full d (some .int) (wQi Q) 30 [some (.inr (.inr 56)), some (.inr (.inr x1)), some (.inl x2), some (.inl x3), some (.inl x4)] [] M := by
  refine x_iload rfl rfl ?_
  refine x_sipush 1000 rfl (by decide) ?_
  exact x_icmpge rfl h1 (by decide) kt kf
theorem uX4_full_38 {d : Nat} {Q : Int → yM → Prop} {M : yM} {x1 : Nat} {x2 : Int} {x3 : Int} {x4 : Int} (h1 : arrSh x1 64) (k : ∀ M', M' = (cpy M x1 63 0 0 64) → XW kX4_full d (some .int) (wQi Q) 50 [some (.inr (.inr 56)), some (.inr (.inr x1)), some (.inl x2), some (.inl x3), some (.inl x4)] [] M') : XW kX4_full d (some .int) (wQi Q) 38 [some (.inr (.inr 56)), some (.inr (.inr x1)), some (.inl x2), some (.inl x3), some (.inl x4)] [] M := by
  refine x_aload_n rfl rfl ?_
  refine x_iconst 0 rfl (by decide) ?_
  refine x_aload_n rfl rfl ?_
  refine x_getR rfl sh56 rfl ?_
  refine x_iconst 0 rfl (by decide) ?_
  refine x_bipush 64 rfl (by decide) ?_
  refine x_cpy rfl h1 ⟨sh63, Nat.le_of_ble_eq_true rfl⟩ (by decide) (Nat.le_of_ble_eq_true rfl) ?_
  exact k _ rfl
theorem uX4_full_50 {d : Nat} {Q : Int → yM → Prop} {M : yM} {x1 : Nat} {x2 : Int} {x3 : Int} {x4 : Int} (k : XCi d 29 [.inr (.inr 56), .inr (.inr x1)] M (fun v M' => XW kX4_full (d + 1) (some .int) (wQi Q) 56 [some (.inr (.inr 56)), some (.inr (.inr x1)), some (.inl x2), some (.inl x3), some (.inl x4)] [.inl v, .inl x2] M')) : XW kX4_full (d + 1) (some .int) (wQi Q) 50 [some (.inr (.inr 56)), some (.inr (.inr x1)), some (.inl x2), some (.inl x3), some (.inl x4)] [] M := by
  refine x_iload_n rfl rfl ?_
  refine x_aload_n rfl rfl ?_
  refine x_aload_n rfl rfl ?_
  exact x_calli (args := [.inr (.inr 56), .inr (.inr x1)]) rfl rfl rfl k
theorem uX4_full_56 {d : Nat} {Q : Int → yM → Prop} {M : yM} {x1 : Nat} {x2 : Int} {x3 : Int} {x4 : Int} {s0 : Int} {s1 : Int} (k : XCi d 117 [.inr (.inr x1), .inl (ld M 19 0)] M (fun v M' => XW kX4_full (d + 1) (some .int) (wQi Q) 69 [some (.inr (.inr 56)), some (.inr (.inr x1)), some (.inl (s1 + s0)), some (.inl x3), some (.inl x4)] [.inl v] M')) : XW kX4_full (d + 1) (some .int) (wQi Q) 56 [some (.inr (.inr 56)), some (.inr (.inr x1)), some (.inl x2), some (.inl x3), some (.inl x4)] [.inl s0, .inl s1] M := by
  refine x_iadd rfl ?_
  refine x_istore_n rfl (Nat.le_of_ble_eq_true rfl) rfl ?_
  refine x_aload_n rfl rfl ?_
  refine x_aload_n rfl rfl ?_
  refine x_getR rfl sh56 rfl ?_
  refine x_getI rfl sh19 rfl ?_
  exact x_calli (args := [.inr (.inr x1), .inl (ld M 19 0)]) rfl rfl rfl k
theorem uX4_full_69 {d : Nat} {Q : Int → yM → Prop} {M : yM} {x1 : Nat} {x2 : Int} {x3 : Int} {x4 : Int} {s0 : Int} (h1 : -2147483648 ≤ s0 ∧ s0 < 2147483648) (kt : s0 ≠ 0 → XW kX4_full d (some .int) (wQi Q) 84 [some (.inr (.inr 56)), some (.inr (.inr x1)), some (.inl x2), some (.inl x3), some (.inl x4)] [] M) (kf : s0 = 0 → XW kX4_full d (some .int) (wQi Q) 72 [some (.inr (.inr 56)), some (.inr (.inr x1)), some (.inl x2), some (.inl x3), some (.inl x4)] [] M) : XW kX4_full d (some .int) (wQi Q) 69 [some (.inr (.inr 56)), some (.inr (.inr x1)), some (.inl x2), some (.inl x3), some (.inl x4)] [.inl s0] M := by
  exact x_ifne rfl h1 kt kf
theorem uX4_full_72 {d : Nat} {Q : Int → yM → Prop} {M : yM} {x1 : Nat} {x2 : Int} {x3 : Int} {x4 : Int} (k : XCi d 31 [.inr (.inr 56), .inr (.inr x1)] M (fun v M' => XW kX4_full (d + 1) (some .int) (wQi Q) 77 [some (.inr (.inr 56)), some (.inr (.inr x1)), some (.inl x2), some (.inl x3), some (.inl x4)] [.inl v] M')) : XW kX4_full (d + 1) (some .int) (wQi Q) 72 [some (.inr (.inr 56)), some (.inr (.inr x1)), some (.inl x2), some (.inl x3), some (.inl x4)] [] M := by
  refine x_aload_n rfl rfl ?_
  refine x_aload_n rfl rfl ?_
  exact x_calli (args := [.inr (.inr 56), .inr (.inr x1)]) rfl rfl rfl k
theorem uX4_full_77 {d : Nat} {Q : Int → yM → Prop} {M : yM} {x1 : Nat} {x2 : Int} {x3 : Int} {x4 : Int} {s0 : Int} (h1 : -2147483648 ≤ s0 ∧ s0 < 2147483648) (kt : s0 = 0 → XW kX4_full d (some .int) (wQi Q) 84 [some (.inr (.inr 56)), some (.inr (.inr x1)), some (.inl x2), some (.inl x3), some (.inl x4)] [] M) (kf : s0 ≠ 0 → XW kX4_full d (some .int) (wQi Q) 80 [some (.inr (.inr 56)), some (.inr (.inr x1)), some (.inl x2), some (.inl x3), some (.inl x4)] [] M) : XW kX4_full d (some .int) (wQi Q) 77 [some (.inr (.inr 56)), some (.inr (.inr x1)), some (.inl x2), some (.inl x3), some (.inl x4)] [.inl s0] M := by
  exact x_ifeq rfl h1 kt kf
theorem uX4_full_80 {d : Nat} {Q : Int → yM → Prop} {M : yM} {x1 : Nat} {x2 : Int} {x3 : Int} {x4 : Int} (k : XW kX4_full d (some .int) (wQi Q) 85 [some (.inr (.inr 56)), some (.inr (.inr x1)), some (.inl x2), some (.inl x3), some (.inl x4)] [.inl 1] M) : XW kX4_full d (some .int) (wQi Q) 80 [some (.inr (.inr 56)), some (.inr (.inr x1)), some (.inl x2), some (.inl x3), some (.inl x4)] [] M := by
  refine x_iconst 1 rfl (by decide) ?_
  exact x_goto rfl k
theorem uX4_full_84 {d : Nat} {Q : Int → yM → Prop} {M : yM} {x1 : Nat} {x2 : Int} {x3 : Int} {x4 : Int} (k : XW kX4_full d (some .int) (wQi Q) 85 [some (.inr (.inr 56)), some (.inr (.inr x1)), some (.inl x2), some (.inl x3), some (.inl x4)] [.inl 0] M) : XW kX4_full d (some .int) (wQi Q) 84 [some (.inr (.inr 56)), some (.inr (.inr x1)), some (.inl x2), some (.inl x3), some (.inl x4)] [] M := by
  refine x_iconst 0 rfl (by decide) ?_
  exact k
theorem uX4_full_85 {d : Nat} {Q : Int → yM → Prop} {M : yM} {x1 : Nat} {x2 : Int} {x3 : Int} {x4 : Int} {s0 : Int} (k : XW kX4_full d (some .int) (wQi Q) 26 [some (.inr (.inr 56)), some (.inr (.inr x1)), some (.inl x2), some (.inl s0), some (.inl (x4 + 1))] [] M) : XW kX4_full d (some .int) (wQi Q) 85 [some (.inr (.inr 56)), some (.inr (.inr x1)), some (.inl x2), some (.inl x3), some (.inl x4)] [.inl s0] M := by
  refine x_istore_n rfl (Nat.le_of_ble_eq_true rfl) rfl ?_
  refine x_iinc 1 rfl (by decide) rfl rfl ?_
  exact x_goto rfl k
theorem uX4_full_92 {d : Nat} {Q : Int → yM → Prop} {M : yM} {x1 : Nat} {x2 : Int} {x3 : Int} {x4 : Int} (k : Q x2 M) : XW kX4_full d (some .int) (wQi Q) 92 [some (.inr (.inr 56)), some (.inr (.inr x1)), some (.inl x2), some (.inl x3), some (.inl x4)] [] M := by
  refine x_iload_n rfl rfl ?_
  exact x_ireturn rfl k
theorem eX4_differs {d : Nat} {Q : Int → yM → Prop} {M : yM} {x1 : Nat}  (h : XW kX4_differs d (some .boolean) (wQi Q) 0 [some (.inr (.inr 56)), some (.inr (.inr x1)), none] [] M) : XCi d 31 [.inr (.inr 56), .inr (.inr x1)] M Q :=
  XC.ofW (Mm := (yX4_differs, cX4_differs, 3, (some .boolean), 5, kX4_differs)) rfl (rcv_ok sh56) rfl rfl h
theorem uX4_differs_0 {d : Nat} {Q : Int → yM → Prop} {M : yM} {x1 : Nat} (k : XW kX4_differs d (some .boolean) (wQi Q) 2 [some (.inr (.inr 56)), some (.inr (.inr x1)), some (.inl 0)] [] M) : XW kX4_differs d (some .boolean) (wQi Q) 0 [some (.inr (.inr 56)), some (.inr (.inr x1)), none] [] M := by
  refine x_iconst 0 rfl (by decide) ?_
  refine x_istore_n rfl (Nat.le_of_ble_eq_true rfl) rfl ?_
  exact k
theorem uX4_differs_2 {d : Nat} {Q : Int → yM → Prop} {M : yM} {x1 : Nat} {x2 : Int} (h1 : -2147483648 ≤ x2 ∧ x2 < 2147483648) (kt : x2 ≥ 64 → XW kX4_differs d (some .boolean) (wQi Q) 28 [some (.inr (.inr 56)), some (.inr (.inr x1)), some (.inl x2)] [] M) (kf : x2 < 64 → XW kX4_differs d (some .boolean) (wQi Q) 8 [some (.inr (.inr 56)), some (.inr (.inr x1)), some (.inl x2)] [] M) : XW kX4_differs d (some .boolean) (wQi Q) 2 [some (.inr (.inr 56)), some (.inr (.inr x1)), some (.inl x2)] [] M := by
  refine x_iload_n rfl rfl ?_
  refine x_bipush 64 rfl (by decide) ?_
  exact x_icmpge rfl h1 (by decide) kt kf
theorem uX4_differs_8 {d : Nat} {Q : Int → yM → Prop} {M : yM} {x1 : Nat} {x2 : Int} (h1 : arrSh x1 64) (h2 : 0 ≤ x2 ∧ x2 < 64) (h3 : 0 ≤ x2 ∧ x2 < 64) (kt : (ld M x1 x2) = (ld M 63 x2) → XW kX4_differs d (some .boolean) (wQi Q) 22 [some (.inr (.inr 56)), some (.inr (.inr x1)), some (.inl x2)] [] M) (kf : (ld M x1 x2) ≠ (ld M 63 x2) → XW kX4_differs d (some .boolean) (wQi Q) 20 [some (.inr (.inr 56)), some (.inr (.inr x1)), some (.inl x2)] [] M) : XW kX4_differs d (some .boolean) (wQi Q) 8 [some (.inr (.inr 56)), some (.inr (.inr x1)), some (.inl x2)] [] M := by
  refine x_aload_n rfl rfl ?_
  refine x_iload_n rfl rfl ?_
  refine x_iaload rfl h1 h2 ?_
  refine x_aload_n rfl rfl ?_
  refine x_getR rfl sh56 rfl ?_
  refine x_iload_n rfl rfl ?_
  refine x_iaload rfl ⟨sh63, Nat.le_of_ble_eq_true rfl⟩ h3 ?_
  exact x_icmpeq rfl (rng_ld _ _ _) (rng_ld _ _ _) kt kf
theorem uX4_differs_20 {d : Nat} {Q : Int → yM → Prop} {M : yM} {x1 : Nat} {x2 : Int} (k : Q 1 M) : XW kX4_differs d (some .boolean) (wQi Q) 20 [some (.inr (.inr 56)), some (.inr (.inr x1)), some (.inl x2)] [] M := by
  refine x_iconst 1 rfl (by decide) ?_
  exact x_zreturn rfl (by decide) k
theorem uX4_differs_22 {d : Nat} {Q : Int → yM → Prop} {M : yM} {x1 : Nat} {x2 : Int} (k : XW kX4_differs d (some .boolean) (wQi Q) 2 [some (.inr (.inr 56)), some (.inr (.inr x1)), some (.inl (x2 + 1))] [] M) : XW kX4_differs d (some .boolean) (wQi Q) 22 [some (.inr (.inr 56)), some (.inr (.inr x1)), some (.inl x2)] [] M := by
  refine x_iinc 1 rfl (by decide) rfl rfl ?_
  exact x_goto rfl k
theorem uX4_differs_28 {d : Nat} {Q : Int → yM → Prop} {M : yM} {x1 : Nat} {x2 : Int} (k : Q 0 M) : XW kX4_differs d (some .boolean) (wQi Q) 28 [some (.inr (.inr 56)), some (.inr (.inr x1)), some (.inl x2)] [] M := by
  refine x_iconst 0 rfl (by decide) ?_
  exact x_zreturn rfl (by decide) k
theorem eX4_trying {d : Nat} {Q : Int → yM → Prop} {M : yM} {x1 : Nat}  (h : XW kX4_trying d (some .int) (wQi Q) 0 [some (.inr (.inr 56)), some (.inr (.inr x1)), none, none, none] [] M) : XCi d 32 [.inr (.inr 56), .inr (.inr x1)] M Q :=
  XC.ofW (Mm := (yX4_trying, cX4_trying, 5, (some .int), 5, kX4_trying)) rfl (rcv_ok sh56) rfl rfl h
theorem uX4_trying_0 {d : Nat} {Q : Int → yM → Prop} {M : yM} {x1 : Nat} (k : XCi d 117 [.inr (.inr x1), .inl (ld M 19 0)] M (fun v M' => XW kX4_trying (d + 1) (some .int) (wQi Q) 14 [some (.inr (.inr 56)), some (.inr (.inr x1)), some (.inl 100), none, none] [.inl v] M')) : XW kX4_trying (d + 1) (some .int) (wQi Q) 0 [some (.inr (.inr 56)), some (.inr (.inr x1)), none, none, none] [] M := by
  refine x_bipush 100 rfl (by decide) ?_
  refine x_istore_n rfl (Nat.le_of_ble_eq_true rfl) rfl ?_
  refine x_aload_n rfl rfl ?_
  refine x_aload_n rfl rfl ?_
  refine x_getR rfl sh56 rfl ?_
  refine x_getI rfl sh19 rfl ?_
  exact x_calli (args := [.inr (.inr x1), .inl (ld M 19 0)]) rfl rfl rfl k
theorem uX4_trying_14 {d : Nat} {Q : Int → yM → Prop} {M : yM} {x1 : Nat} {x2 : Int} {s0 : Int} (h1 : -2147483648 ≤ s0 ∧ s0 < 2147483648) (kt : s0 ≠ 0 → XW kX4_trying d (some .int) (wQi Q) 21 [some (.inr (.inr 56)), some (.inr (.inr x1)), some (.inl x2), none, none] [] M) (kf : s0 = 0 → XW kX4_trying d (some .int) (wQi Q) 17 [some (.inr (.inr 56)), some (.inr (.inr x1)), some (.inl x2), none, none] [] M) : XW kX4_trying d (some .int) (wQi Q) 14 [some (.inr (.inr 56)), some (.inr (.inr x1)), some (.inl x2), none, none] [.inl s0] M := by
  exact x_ifne rfl h1 kt kf
theorem uX4_trying_17 {d : Nat} {Q : Int → yM → Prop} {M : yM} {x1 : Nat} {x2 : Int} (k : XW kX4_trying d (some .int) (wQi Q) 22 [some (.inr (.inr 56)), some (.inr (.inr x1)), some (.inl x2), none, none] [.inl 1] M) : XW kX4_trying d (some .int) (wQi Q) 17 [some (.inr (.inr 56)), some (.inr (.inr x1)), some (.inl x2), none, none] [] M := by
  refine x_iconst 1 rfl (by decide) ?_
  exact x_goto rfl k
theorem uX4_trying_21 {d : Nat} {Q : Int → yM → Prop} {M : yM} {x1 : Nat} {x2 : Int} (k : XW kX4_trying d (some .int) (wQi Q) 22 [some (.inr (.inr 56)), some (.inr (.inr x1)), some (.inl x2), none, none] [.inl 0] M) : XW kX4_trying d (some .int) (wQi Q) 21 [some (.inr (.inr 56)), some (.inr (.inr x1)), some (.inl x2), none, none] [] M := by
  refine x_iconst 0 rfl (by decide) ?_
  exact k
theorem uX4_trying_22 {d : Nat} {Q : Int → yM → Prop} {M : yM} {x1 : Nat} {x2 : Int} {s0 : Int} (k : XW kX4_trying d (some .int) (wQi Q) 26 [some (.inr (.inr 56)), some (.inr (.inr x1)), some (.inl x2), some (.inl s0), some (.inl 0)] [] M) : XW kX4_trying d (some .int) (wQi Q) 22 [some (.inr (.inr 56)), some (.inr (.inr x1)), some (.inl x2), none, none] [.inl s0] M := by
  refine x_istore_n rfl (Nat.le_of_ble_eq_true rfl) rfl ?_
  refine x_iconst 0 rfl (by decide) ?_
  refine x_istore rfl (Nat.le_of_ble_eq_true rfl) rfl ?_
  exact k
theorem uX4_trying_26 {d : Nat} {Q : Int → yM → Prop} {M : yM} {x1 : Nat} {x2 : Int} {x3 : Int} {x4 : Int} (h1 : -2147483648 ≤ x3 ∧ x3 < 2147483648) (kt : x3 = 0 → XW kX4_trying d (some .int) (wQi Q) 94 [some (.inr (.inr 56)), some (.inr (.inr x1)), some (.inl x2), some (.inl x3), some (.inl x4)] [] M) (kf : x3 ≠ 0 → XW kX4_trying d (some .int) (wQi Q) 30 [some (.inr (.inr 56)), some (.inr (.inr x1)), some (.inl x2), some (.inl x3), some (.inl x4)] [] M) : XW kX4_trying d (some .int) (wQi Q) 26 [some (.inr (.inr 56)), some (.inr (.inr x1)), some (.inl x2), some (.inl x3), some (.inl x4)] [] M := by
  refine x_iload_n rfl rfl ?_
  exact x_ifeq rfl h1 kt kf
theorem uX4_trying_30 {d : Nat} {Q : Int → yM → Prop} {M : yM} {x1 : Nat} {x2 : Int} {x3 : Int} {x4 : Int} (h1 : -2147483648 ≤ x4 ∧ x4 < 2147483648) (kt : x4 ≥ 1000 → XW kX4_trying d (some .int) (wQi Q) 94 [some (.inr (.inr 56)), some (.inr (.inr x1)), some (.inl x2), some (.inl x3), some (.inl x4)] [] M) (kf : x4 < 1000 → XW kX4_trying d (some .int) (wQi Q) 38 [some (.inr (.inr 56)), some (.inr (.inr x1)), some (.inl x2), some (.inl x3), some (.inl x4)] [] M) : XW kX4_trying d (some .int) (wQi Q) 30 [some (.inr (.inr 56)), some (.inr (.inr x1)), some (.inl x2), some (.inl x3), some (.inl x4)] [] M := by
  refine x_iload rfl rfl ?_
  refine x_sipush 1000 rfl (by decide) ?_
  exact x_icmpge rfl h1 (by decide) kt kf
theorem uX4_trying_38 {d : Nat} {Q : Int → yM → Prop} {M : yM} {x1 : Nat} {x2 : Int} {x3 : Int} {x4 : Int} (k : XCi d 30 [.inr (.inr 56), .inr (.inr x1)] M (fun v M' => XW kX4_trying (d + 1) (some .int) (wQi Q) 44 [some (.inr (.inr 56)), some (.inr (.inr x1)), some (.inl x2), some (.inl x3), some (.inl x4)] [.inl v, .inl x2] M')) : XW kX4_trying (d + 1) (some .int) (wQi Q) 38 [some (.inr (.inr 56)), some (.inr (.inr x1)), some (.inl x2), some (.inl x3), some (.inl x4)] [] M := by
  refine x_iload_n rfl rfl ?_
  refine x_aload_n rfl rfl ?_
  refine x_aload_n rfl rfl ?_
  exact x_calli (args := [.inr (.inr 56), .inr (.inr x1)]) rfl rfl rfl k
theorem uX4_trying_44 {d : Nat} {Q : Int → yM → Prop} {M : yM} {x1 : Nat} {x2 : Int} {x3 : Int} {x4 : Int} {s0 : Int} {s1 : Int} (k : XCi d 117 [.inr (.inr x1), .inl (ld M 19 0)] M (fun v M' => XW kX4_trying (d + 1) (some .int) (wQi Q) 57 [some (.inr (.inr 56)), some (.inr (.inr x1)), some (.inl (s1 + s0)), some (.inl x3), some (.inl x4)] [.inl v] M')) : XW kX4_trying (d + 1) (some .int) (wQi Q) 44 [some (.inr (.inr 56)), some (.inr (.inr x1)), some (.inl x2), some (.inl x3), some (.inl x4)] [.inl s0, .inl s1] M := by
  refine x_iadd rfl ?_
  refine x_istore_n rfl (Nat.le_of_ble_eq_true rfl) rfl ?_
  refine x_aload_n rfl rfl ?_
  refine x_aload_n rfl rfl ?_
  refine x_getR rfl sh56 rfl ?_
  refine x_getI rfl sh19 rfl ?_
  exact x_calli (args := [.inr (.inr x1), .inl (ld M 19 0)]) rfl rfl rfl k
theorem uX4_trying_57 {d : Nat} {Q : Int → yM → Prop} {M : yM} {x1 : Nat} {x2 : Int} {x3 : Int} {x4 : Int} {s0 : Int} (h1 : -2147483648 ≤ s0 ∧ s0 < 2147483648) (kt : s0 ≠ 0 → XW kX4_trying d (some .int) (wQi Q) 86 [some (.inr (.inr 56)), some (.inr (.inr x1)), some (.inl x2), some (.inl x3), some (.inl x4)] [] M) (kf : s0 = 0 → XW kX4_trying d (some .int) (wQi Q) 60 [some (.inr (.inr 56)), some (.inr (.inr x1)), some (.inl x2), some (.inl x3), some (.inl x4)] [] M) : XW kX4_trying d (some .int) (wQi Q) 57 [some (.inr (.inr 56)), some (.inr (.inr x1)), some (.inl x2), some (.inl x3), some (.inl x4)] [.inl s0] M := by
  exact x_ifne rfl h1 kt kf
theorem uX4_trying_60 {d : Nat} {Q : Int → yM → Prop} {M : yM} {x1 : Nat} {x2 : Int} {x3 : Int} {x4 : Int} (k : XCi d 33 [.inr (.inr 56), .inr (.inr x1)] M (fun v M' => XW kX4_trying (d + 1) (some .int) (wQi Q) 65 [some (.inr (.inr 56)), some (.inr (.inr x1)), some (.inl x2), some (.inl x3), some (.inl x4)] [.inl v] M')) : XW kX4_trying (d + 1) (some .int) (wQi Q) 60 [some (.inr (.inr 56)), some (.inr (.inr x1)), some (.inl x2), some (.inl x3), some (.inl x4)] [] M := by
  refine x_aload_n rfl rfl ?_
  refine x_aload_n rfl rfl ?_
  exact x_calli (args := [.inr (.inr 56), .inr (.inr x1)]) rfl rfl rfl k
theorem uX4_trying_65 {d : Nat} {Q : Int → yM → Prop} {M : yM} {x1 : Nat} {x2 : Int} {x3 : Int} {x4 : Int} {s0 : Int} (h1 : -2147483648 ≤ s0 ∧ s0 < 2147483648) (kt : s0 = 0 → XW kX4_trying d (some .int) (wQi Q) 86 [some (.inr (.inr 56)), some (.inr (.inr x1)), some (.inl x2), some (.inl x3), some (.inl x4)] [] M) (kf : s0 ≠ 0 → XW kX4_trying d (some .int) (wQi Q) 68 [some (.inr (.inr 56)), some (.inr (.inr x1)), some (.inl x2), some (.inl x3), some (.inl x4)] [] M) : XW kX4_trying d (some .int) (wQi Q) 65 [some (.inr (.inr 56)), some (.inr (.inr x1)), some (.inl x2), some (.inl x3), some (.inl x4)] [.inl s0] M := by
  exact x_ifeq rfl h1 kt kf
theorem uX4_trying_68 {d : Nat} {Q : Int → yM → Prop} {M : yM} {x1 : Nat} {x2 : Int} {x3 : Int} {x4 : Int} (k : XCi d 117 [.inr (.inr x1), .inl (ld M 19 0)] M (fun v M' => XW kX4_trying (d + 1) (some .int) (wQi Q) 79 [some (.inr (.inr 56)), some (.inr (.inr x1)), some (.inl x2), some (.inl x3), some (.inl x4)] [.inl v] M')) : XW kX4_trying (d + 1) (some .int) (wQi Q) 68 [some (.inr (.inr 56)), some (.inr (.inr x1)), some (.inl x2), some (.inl x3), some (.inl x4)] [] M := by
  refine x_aload_n rfl rfl ?_
  refine x_aload_n rfl rfl ?_
  refine x_getR rfl sh56 rfl ?_
  refine x_getI rfl sh19 rfl ?_
  exact x_calli (args := [.inr (.inr x1), .inl (ld M 19 0)]) rfl rfl rfl k
theorem uX4_trying_79 {d : Nat} {Q : Int → yM → Prop} {M : yM} {x1 : Nat} {x2 : Int} {x3 : Int} {x4 : Int} {s0 : Int} (h1 : -2147483648 ≤ s0 ∧ s0 < 2147483648) (kt : s0 ≠ 0 → XW kX4_trying d (some .int) (wQi Q) 86 [some (.inr (.inr 56)), some (.inr (.inr x1)), some (.inl x2), some (.inl x3), some (.inl x4)] [] M) (kf : s0 = 0 → XW kX4_trying d (some .int) (wQi Q) 82 [some (.inr (.inr 56)), some (.inr (.inr x1)), some (.inl x2), some (.inl x3), some (.inl x4)] [] M) : XW kX4_trying d (some .int) (wQi Q) 79 [some (.inr (.inr 56)), some (.inr (.inr x1)), some (.inl x2), some (.inl x3), some (.inl x4)] [.inl s0] M := by
  exact x_ifne rfl h1 kt kf
theorem uX4_trying_82 {d : Nat} {Q : Int → yM → Prop} {M : yM} {x1 : Nat} {x2 : Int} {x3 : Int} {x4 : Int} (k : XW kX4_trying d (some .int) (wQi Q) 87 [some (.inr (.inr 56)), some (.inr (.inr x1)), some (.inl x2), some (.inl x3), some (.inl x4)] [.inl 1] M) : XW kX4_trying d (some .int) (wQi Q) 82 [some (.inr (.inr 56)), some (.inr (.inr x1)), some (.inl x2), some (.inl x3), some (.inl x4)] [] M := by
  refine x_iconst 1 rfl (by decide) ?_
  exact x_goto rfl k
theorem uX4_trying_86 {d : Nat} {Q : Int → yM → Prop} {M : yM} {x1 : Nat} {x2 : Int} {x3 : Int} {x4 : Int} (k : XW kX4_trying d (some .int) (wQi Q) 87 [some (.inr (.inr 56)), some (.inr (.inr x1)), some (.inl x2), some (.inl x3), some (.inl x4)] [.inl 0] M) : XW kX4_trying d (some .int) (wQi Q) 86 [some (.inr (.inr 56)), some (.inr (.inr x1)), some (.inl x2), some (.inl x3), some (.inl x4)] [] M := by
  refine x_iconst 0 rfl (by decide) ?_
  exact k
theorem uX4_trying_87 {d : Nat} {Q : Int → yM → Prop} {M : yM} {x1 : Nat} {x2 : Int} {x3 : Int} {x4 : Int} {s0 : Int} (k : XW kX4_trying d (some .int) (wQi Q) 26 [some (.inr (.inr 56)), some (.inr (.inr x1)), some (.inl x2), some (.inl s0), some (.inl (x4 + 1))] [] M) : XW kX4_trying d (some .int) (wQi Q) 87 [some (.inr (.inr 56)), some (.inr (.inr x1)), some (.inl x2), some (.inl x3), some (.inl x4)] [.inl s0] M := by
  refine x_istore_n rfl (Nat.le_of_ble_eq_true rfl) rfl ?_
  refine x_iinc 1 rfl (by decide) rfl rfl ?_
  exact x_goto rfl k
theorem uX4_trying_94 {d : Nat} {Q : Int → yM → Prop} {M : yM} {x1 : Nat} {x2 : Int} {x3 : Int} {x4 : Int} (k : Q x2 M) : XW kX4_trying d (some .int) (wQi Q) 94 [some (.inr (.inr 56)), some (.inr (.inr x1)), some (.inl x2), some (.inl x3), some (.inl x4)] [] M := by
  refine x_iload_n rfl rfl ?_
  exact x_ireturn rfl k
theorem eX4_someGo {d : Nat} {Q : Int → yM → Prop} {M : yM} {x1 : Nat}  (h : XW kX4_someGo d (some .boolean) (wQi Q) 0 [some (.inr (.inr 56)), some (.inr (.inr x1)), none, none, none, none, none, none] [] M) : XCi d 33 [.inr (.inr 56), .inr (.inr x1)] M Q :=
  XC.ofW (Mm := (yX4_someGo, cX4_someGo, 8, (some .boolean), 5, kX4_someGo)) rfl (rcv_ok sh56) rfl rfl h
theorem uX4_someGo_0 {d : Nat} {Q : Int → yM → Prop} {M : yM} {x1 : Nat} (k : XW kX4_someGo d (some .boolean) (wQi Q) 5 [some (.inr (.inr 56)), some (.inr (.inr x1)), some (.inr (.inl 0)), none, some (.inl 0), none, none, none] [] M) : XW kX4_someGo d (some .boolean) (wQi Q) 0 [some (.inr (.inr 56)), some (.inr (.inr x1)), none, none, none, none, none, none] [] M := by
  refine x_lconst 0 rfl (by decide) ?_
  refine x_lstore_n rfl (Nat.le_of_ble_eq_true rfl) rfl ?_
  refine x_iconst 0 rfl (by decide) ?_
  refine x_istore rfl (Nat.le_of_ble_eq_true rfl) rfl ?_
  exact k
theorem uX4_someGo_5 {d : Nat} {Q : Int → yM → Prop} {M : yM} {x1 : Nat} {x2 : Int} {x4 : Int} {wx5 : Option yV} {wx6 : Option yV} {wx7 : Option yV} (h1 : -2147483648 ≤ x4 ∧ x4 < 2147483648) (kt : x4 ≥ (ld M 19 0) → XW kX4_someGo d (some .boolean) (wQi Q) 157 [some (.inr (.inr 56)), some (.inr (.inr x1)), some (.inr (.inl x2)), none, some (.inl x4), wx5, wx6, wx7] [] M) (kf : x4 < (ld M 19 0) → XW kX4_someGo d (some .boolean) (wQi Q) 17 [some (.inr (.inr 56)), some (.inr (.inr x1)), some (.inr (.inl x2)), none, some (.inl x4), wx5, wx6, wx7] [] M) : XW kX4_someGo d (some .boolean) (wQi Q) 5 [some (.inr (.inr 56)), some (.inr (.inr x1)), some (.inr (.inl x2)), none, some (.inl x4), wx5, wx6, wx7] [] M := by
  refine x_iload rfl rfl ?_
  refine x_aload_n rfl rfl ?_
  refine x_getR rfl sh56 rfl ?_
  refine x_getI rfl sh19 rfl ?_
  exact x_icmpge rfl h1 (rng_ld _ _ _) kt kf
theorem uX4_someGo_17 {d : Nat} {Q : Int → yM → Prop} {M : yM} {x1 : Nat} {x2 : Int} {x4 : Int} {wx5 : Option yV} {wx6 : Option yV} {wx7 : Option yV} (k : XW kX4_someGo d (some .boolean) (wQi Q) 23 [some (.inr (.inr 56)), some (.inr (.inr x1)), some (.inr (.inl x2)), none, some (.inl x4), some (.inl (x4 + 1)), wx6, wx7] [] M) : XW kX4_someGo d (some .boolean) (wQi Q) 17 [some (.inr (.inr 56)), some (.inr (.inr x1)), some (.inr (.inl x2)), none, some (.inl x4), wx5, wx6, wx7] [] M := by
  refine x_iload rfl rfl ?_
  refine x_iconst 1 rfl (by decide) ?_
  refine x_iadd rfl ?_
  refine x_istore rfl (Nat.le_of_ble_eq_true rfl) rfl ?_
  exact k
theorem uX4_someGo_23 {d : Nat} {Q : Int → yM → Prop} {M : yM} {x1 : Nat} {x2 : Int} {x4 : Int} {x5 : Int} {wx6 : Option yV} {wx7 : Option yV} (h1 : -2147483648 ≤ x5 ∧ x5 < 2147483648) (kt : x5 ≥ (ld M 19 0) → XW kX4_someGo d (some .boolean) (wQi Q) 151 [some (.inr (.inr 56)), some (.inr (.inr x1)), some (.inr (.inl x2)), none, some (.inl x4), some (.inl x5), wx6, wx7] [] M) (kf : x5 < (ld M 19 0) → XW kX4_someGo d (some .boolean) (wQi Q) 35 [some (.inr (.inr 56)), some (.inr (.inr x1)), some (.inr (.inl x2)), none, some (.inl x4), some (.inl x5), wx6, wx7] [] M) : XW kX4_someGo d (some .boolean) (wQi Q) 23 [some (.inr (.inr 56)), some (.inr (.inr x1)), some (.inr (.inl x2)), none, some (.inl x4), some (.inl x5), wx6, wx7] [] M := by
  refine x_iload rfl rfl ?_
  refine x_aload_n rfl rfl ?_
  refine x_getR rfl sh56 rfl ?_
  refine x_getI rfl sh19 rfl ?_
  exact x_icmpge rfl h1 (rng_ld _ _ _) kt kf
theorem uX4_someGo_35 {d : Nat} {Q : Int → yM → Prop} {M : yM} {x1 : Nat} {x2 : Int} {x4 : Int} {x5 : Int} {wx6 : Option yV} {wx7 : Option yV} (k : XW kX4_someGo d (some .boolean) (wQi Q) 38 [some (.inr (.inr 56)), some (.inr (.inr x1)), some (.inr (.inl x2)), none, some (.inl x4), some (.inl x5), some (.inl 0), wx7] [] M) : XW kX4_someGo d (some .boolean) (wQi Q) 35 [some (.inr (.inr 56)), some (.inr (.inr x1)), some (.inr (.inl x2)), none, some (.inl x4), some (.inl x5), wx6, wx7] [] M := by
  refine x_iconst 0 rfl (by decide) ?_
  refine x_istore rfl (Nat.le_of_ble_eq_true rfl) rfl ?_
  exact k
theorem uX4_someGo_38 {d : Nat} {Q : Int → yM → Prop} {M : yM} {x1 : Nat} {x2 : Int} {x4 : Int} {x5 : Int} {x6 : Int} {wx7 : Option yV} (h1 : -2147483648 ≤ x6 ∧ x6 < 2147483648) (kt : x6 ≥ 8 → XW kX4_someGo d (some .boolean) (wQi Q) 145 [some (.inr (.inr 56)), some (.inr (.inr x1)), some (.inr (.inl x2)), none, some (.inl x4), some (.inl x5), some (.inl x6), wx7] [] M) (kf : x6 < 8 → XW kX4_someGo d (some .boolean) (wQi Q) 45 [some (.inr (.inr 56)), some (.inr (.inr x1)), some (.inr (.inl x2)), none, some (.inl x4), some (.inl x5), some (.inl x6), wx7] [] M) : XW kX4_someGo d (some .boolean) (wQi Q) 38 [some (.inr (.inr 56)), some (.inr (.inr x1)), some (.inr (.inl x2)), none, some (.inl x4), some (.inl x5), some (.inl x6), wx7] [] M := by
  refine x_iload rfl rfl ?_
  refine x_bipush 8 rfl (by decide) ?_
  exact x_icmpge rfl h1 (by decide) kt kf
theorem uX4_someGo_45 {d : Nat} {Q : Int → yM → Prop} {M : yM} {x1 : Nat} {x2 : Int} {x4 : Int} {x5 : Int} {x6 : Int} {wx7 : Option yV} (h1 : arrSh x1 64) (h2 : 0 ≤ ((8 * x4) + x5) ∧ ((8 * x4) + x5) < 64) (kt : (yand (yshr (ld M x1 ((8 * x4) + x5)) x6) 1) = 0 → XW kX4_someGo d (some .boolean) (wQi Q) 139 [some (.inr (.inr 56)), some (.inr (.inr x1)), some (.inr (.inl x2)), none, some (.inl x4), some (.inl x5), some (.inl x6), some (.inl ((8 * x4) + x5))] [] M) (kf : (yand (yshr (ld M x1 ((8 * x4) + x5)) x6) 1) ≠ 0 → XW kX4_someGo d (some .boolean) (wQi Q) 67 [some (.inr (.inr 56)), some (.inr (.inr x1)), some (.inr (.inl x2)), none, some (.inl x4), some (.inl x5), some (.inl x6), some (.inl ((8 * x4) + x5))] [] M) : XW kX4_someGo d (some .boolean) (wQi Q) 45 [some (.inr (.inr 56)), some (.inr (.inr x1)), some (.inr (.inl x2)), none, some (.inl x4), some (.inl x5), some (.inl x6), wx7] [] M := by
  refine x_bipush 8 rfl (by decide) ?_
  refine x_iload rfl rfl ?_
  refine x_imul rfl ?_
  refine x_iload rfl rfl ?_
  refine x_iadd rfl ?_
  refine x_istore rfl (Nat.le_of_ble_eq_true rfl) rfl ?_
  refine x_aload_n rfl rfl ?_
  refine x_iload rfl rfl ?_
  refine x_iaload rfl h1 h2 ?_
  refine x_iload rfl rfl ?_
  refine x_ishr rfl ?_
  refine x_iconst 1 rfl (by decide) ?_
  refine x_iand rfl ?_
  exact x_ifeq rfl (rng_yand _ _) kt kf
theorem uX4_someGo_67 {d : Nat} {Q : Int → yM → Prop} {M : yM} {x1 : Nat} {x2 : Int} {x4 : Int} {x5 : Int} {x6 : Int} {x7 : Int} (k : XCi d 34 [.inr (.inr 56), .inr (.inr x1), .inl x7, .inl x6, .inr (.inl x2)] M (fun v M' => XW kX4_someGo (d + 1) (some .boolean) (wQi Q) 77 [some (.inr (.inr 56)), some (.inr (.inr x1)), some (.inr (.inl x2)), none, some (.inl x4), some (.inl x5), some (.inl x6), some (.inl x7)] [.inl v] M')) : XW kX4_someGo (d + 1) (some .boolean) (wQi Q) 67 [some (.inr (.inr 56)), some (.inr (.inr x1)), some (.inr (.inl x2)), none, some (.inl x4), some (.inl x5), some (.inl x6), some (.inl x7)] [] M := by
  refine x_aload_n rfl rfl ?_
  refine x_aload_n rfl rfl ?_
  refine x_iload rfl rfl ?_
  refine x_iload rfl rfl ?_
  refine x_lload_n rfl rfl ?_
  exact x_calli (args := [.inr (.inr 56), .inr (.inr x1), .inl x7, .inl x6, .inr (.inl x2)]) rfl rfl rfl k
theorem uX4_someGo_77 {d : Nat} {Q : Int → yM → Prop} {M : yM} {x1 : Nat} {x2 : Int} {x4 : Int} {x5 : Int} {x6 : Int} {x7 : Int} {s0 : Int} (h1 : -2147483648 ≤ s0 ∧ s0 < 2147483648) (kt : s0 = 0 → XW kX4_someGo d (some .boolean) (wQi Q) 83 [some (.inr (.inr 56)), some (.inr (.inr x1)), some (.inr (.inl x2)), none, some (.inl x4), some (.inl x5), some (.inl x6), some (.inl x7)] [] M) (kf : s0 ≠ 0 → XW kX4_someGo d (some .boolean) (wQi Q) 80 [some (.inr (.inr 56)), some (.inr (.inr x1)), some (.inr (.inl x2)), none, some (.inl x4), some (.inl x5), some (.inl x6), some (.inl x7)] [] M) : XW kX4_someGo d (some .boolean) (wQi Q) 77 [some (.inr (.inr 56)), some (.inr (.inr x1)), some (.inr (.inl x2)), none, some (.inl x4), some (.inl x5), some (.inl x6), some (.inl x7)] [.inl s0] M := by
  exact x_ifeq rfl h1 kt kf
theorem uX4_someGo_80 {d : Nat} {Q : Int → yM → Prop} {M : yM} {x1 : Nat} {x2 : Int} {x4 : Int} {x5 : Int} {x6 : Int} {x7 : Int} (k : XW kX4_someGo d (some .boolean) (wQi Q) 139 [some (.inr (.inr 56)), some (.inr (.inr x1)), some (.inr (.inl x2)), none, some (.inl x4), some (.inl x5), some (.inl x6), some (.inl x7)] [] M) : XW kX4_someGo d (some .boolean) (wQi Q) 80 [some (.inr (.inr 56)), some (.inr (.inr x1)), some (.inr (.inl x2)), none, some (.inl x4), some (.inl x5), some (.inl x6), some (.inl x7)] [] M := by
  exact x_goto rfl k
theorem uX4_someGo_83 {d : Nat} {Q : Int → yM → Prop} {M : yM} {x1 : Nat} {x2 : Int} {x4 : Int} {x5 : Int} {x6 : Int} {x7 : Int} (h1 : arrSh x1 64) (h2 : 0 ≤ x7 ∧ x7 < 64) (h3 : 0 ≤ x7 ∧ x7 < 64) (k : ∀ M', M' = (put M x1 x7 (yand (ld M x1 x7) (yxor (yshl 1 x6) (-1)))) → XW kX4_someGo d (some .boolean) (wQi Q) 96 [some (.inr (.inr 56)), some (.inr (.inr x1)), some (.inr (.inl x2)), none, some (.inl x4), some (.inl x5), some (.inl x6), some (.inl x7)] [] M') : XW kX4_someGo d (some .boolean) (wQi Q) 83 [some (.inr (.inr 56)), some (.inr (.inr x1)), some (.inr (.inl x2)), none, some (.inl x4), some (.inl x5), some (.inl x6), some (.inl x7)] [] M := by
  refine x_aload_n rfl rfl ?_
  refine x_iload rfl rfl ?_
  refine x_dup2 rfl ?_
  refine x_iaload rfl h1 h2 ?_
  refine x_iconst 1 rfl (by decide) ?_
  refine x_iload rfl rfl ?_
  refine x_ishl rfl ?_
  refine x_iconst (-1) rfl (by decide) ?_
  refine x_ixor rfl ?_
  refine x_iand rfl ?_
  refine x_iastore rfl h1 h3  ?_
  exact k _ rfl
theorem uX4_someGo_96 {d : Nat} {Q : Int → yM → Prop} {M : yM} {x1 : Nat} {x2 : Int} {x4 : Int} {x5 : Int} {x6 : Int} {x7 : Int} (h1 : arrSh x1 64) (h2 : 0 ≤ x7 ∧ x7 < 64) (k : XCi d 70 [.inr (.inr 1), .inl (ld M x1 x7)] M (fun v M' => XW kX4_someGo (d + 1) (some .boolean) (wQi Q) 119 [some (.inr (.inr 56)), some (.inr (.inr x1)), some (.inr (.inl x2)), none, some (.inl x4), some (.inl x5), some (.inl x6), some (.inl x7)] [.inl v, .inl ((8 * x5) + x4), .inr (.inr x1)] M')) : XW kX4_someGo (d + 1) (some .boolean) (wQi Q) 96 [some (.inr (.inr 56)), some (.inr (.inr x1)), some (.inr (.inl x2)), none, some (.inl x4), some (.inl x5), some (.inl x6), some (.inl x7)] [] M := by
  refine x_aload_n rfl rfl ?_
  refine x_bipush 8 rfl (by decide) ?_
  refine x_iload rfl rfl ?_
  refine x_imul rfl ?_
  refine x_iload rfl rfl ?_
  refine x_iadd rfl ?_
  refine x_aload_n rfl rfl ?_
  refine x_getR rfl sh56 rfl ?_
  refine x_getR rfl sh21 rfl ?_
  refine x_aload_n rfl rfl ?_
  refine x_iload rfl rfl ?_
  refine x_iaload rfl h1 h2 ?_
  exact x_calli (args := [.inr (.inr 1), .inl (ld M x1 x7)]) rfl rfl rfl k
theorem uX4_someGo_119 {d : Nat} {Q : Int → yM → Prop} {M : yM} {x1 : Nat} {x2 : Int} {x4 : Int} {x5 : Int} {x6 : Int} {x7 : Int} {s0 : Int} {s1 : Int} {s2 : Nat} (h1 : arrSh s2 64) (h2 : 0 ≤ s1 ∧ s1 < 64) (k : ∀ M', M' = (put M s2 s1 s0) → XW kX4_someGo d (some .boolean) (wQi Q) 120 [some (.inr (.inr 56)), some (.inr (.inr x1)), some (.inr (.inl x2)), none, some (.inl x4), some (.inl x5), some (.inl x6), some (.inl x7)] [] M') : XW kX4_someGo d (some .boolean) (wQi Q) 119 [some (.inr (.inr 56)), some (.inr (.inr x1)), some (.inr (.inl x2)), none, some (.inl x4), some (.inl x5), some (.inl x6), some (.inl x7)] [.inl s0, .inl s1, .inr (.inr s2)] M := by
  refine x_iastore rfl h1 h2  ?_
  exact k _ rfl
theorem uX4_someGo_120 {d : Nat} {Q : Int → yM → Prop} {M : yM} {x1 : Nat} {x2 : Int} {x4 : Int} {x5 : Int} {x6 : Int} {x7 : Int} (k : XCl d 118 [.inl x4, .inl x5] M (fun v M' => XW kX4_someGo (d + 1) (some .boolean) (wQi Q) 128 [some (.inr (.inr 56)), some (.inr (.inr x1)), some (.inr (.inl x2)), none, some (.inl x4), some (.inl x5), some (.inl x6), some (.inl x7)] [.inr (.inl v), .inr (.inl x2)] M')) : XW kX4_someGo (d + 1) (some .boolean) (wQi Q) 120 [some (.inr (.inr 56)), some (.inr (.inr x1)), some (.inr (.inl x2)), none, some (.inl x4), some (.inl x5), some (.inl x6), some (.inl x7)] [] M := by
  refine x_lload_n rfl rfl ?_
  refine x_iload rfl rfl ?_
  refine x_iload rfl rfl ?_
  exact x_calll (args := [.inl x4, .inl x5]) rfl rfl rfl k
theorem uX4_someGo_128 {d : Nat} {Q : Int → yM → Prop} {M : yM} {x1 : Nat} {x2 : Int} {x4 : Int} {x5 : Int} {x6 : Int} {x7 : Int} {s0 : Int} {s1 : Int} (h1 : arrSh x1 64) (h2 : 0 ≤ x7 ∧ x7 < 64) (kt : (ld M x1 x7) ≠ 0 → XW kX4_someGo d (some .boolean) (wQi Q) 139 [some (.inr (.inr 56)), some (.inr (.inr x1)), some (.inr (.inl (zor s1 s0))), none, some (.inl x4), some (.inl x5), some (.inl x6), some (.inl x7)] [] M) (kf : (ld M x1 x7) = 0 → XW kX4_someGo d (some .boolean) (wQi Q) 137 [some (.inr (.inr 56)), some (.inr (.inr x1)), some (.inr (.inl (zor s1 s0))), none, some (.inl x4), some (.inl x5), some (.inl x6), some (.inl x7)] [] M) : XW kX4_someGo d (some .boolean) (wQi Q) 128 [some (.inr (.inr 56)), some (.inr (.inr x1)), some (.inr (.inl x2)), none, some (.inl x4), some (.inl x5), some (.inl x6), some (.inl x7)] [.inr (.inl s0), .inr (.inl s1)] M := by
  refine x_lor rfl ?_
  refine x_lstore_n rfl (Nat.le_of_ble_eq_true rfl) rfl ?_
  refine x_aload_n rfl rfl ?_
  refine x_iload rfl rfl ?_
  refine x_iaload rfl h1 h2 ?_
  exact x_ifne rfl (rng_ld _ _ _) kt kf
theorem uX4_someGo_137 {d : Nat} {Q : Int → yM → Prop} {M : yM} {x1 : Nat} {x2 : Int} {x4 : Int} {x5 : Int} {x6 : Int} {x7 : Int} (k : Q 1 M) : XW kX4_someGo d (some .boolean) (wQi Q) 137 [some (.inr (.inr 56)), some (.inr (.inr x1)), some (.inr (.inl x2)), none, some (.inl x4), some (.inl x5), some (.inl x6), some (.inl x7)] [] M := by
  refine x_iconst 1 rfl (by decide) ?_
  exact x_zreturn rfl (by decide) k
theorem uX4_someGo_139 {d : Nat} {Q : Int → yM → Prop} {M : yM} {x1 : Nat} {x2 : Int} {x4 : Int} {x5 : Int} {x6 : Int} {x7 : Int} (k : XW kX4_someGo d (some .boolean) (wQi Q) 38 [some (.inr (.inr 56)), some (.inr (.inr x1)), some (.inr (.inl x2)), none, some (.inl x4), some (.inl x5), some (.inl (x6 + 1)), some (.inl x7)] [] M) : XW kX4_someGo d (some .boolean) (wQi Q) 139 [some (.inr (.inr 56)), some (.inr (.inr x1)), some (.inr (.inl x2)), none, some (.inl x4), some (.inl x5), some (.inl x6), some (.inl x7)] [] M := by
  refine x_iinc 1 rfl (by decide) rfl rfl ?_
  exact x_goto rfl k
theorem uX4_someGo_145 {d : Nat} {Q : Int → yM → Prop} {M : yM} {x1 : Nat} {x2 : Int} {x4 : Int} {x5 : Int} {x6 : Int} {wx7 : Option yV} (k : XW kX4_someGo d (some .boolean) (wQi Q) 23 [some (.inr (.inr 56)), some (.inr (.inr x1)), some (.inr (.inl x2)), none, some (.inl x4), some (.inl (x5 + 1)), some (.inl x6), wx7] [] M) : XW kX4_someGo d (some .boolean) (wQi Q) 145 [some (.inr (.inr 56)), some (.inr (.inr x1)), some (.inr (.inl x2)), none, some (.inl x4), some (.inl x5), some (.inl x6), wx7] [] M := by
  refine x_iinc 1 rfl (by decide) rfl rfl ?_
  exact x_goto rfl k
theorem uX4_someGo_151 {d : Nat} {Q : Int → yM → Prop} {M : yM} {x1 : Nat} {x2 : Int} {x4 : Int} {x5 : Int} {wx6 : Option yV} {wx7 : Option yV} (k : XW kX4_someGo d (some .boolean) (wQi Q) 5 [some (.inr (.inr 56)), some (.inr (.inr x1)), some (.inr (.inl x2)), none, some (.inl (x4 + 1)), some (.inl x5), wx6, wx7] [] M) : XW kX4_someGo d (some .boolean) (wQi Q) 151 [some (.inr (.inr 56)), some (.inr (.inr x1)), some (.inr (.inl x2)), none, some (.inl x4), some (.inl x5), wx6, wx7] [] M := by
  refine x_iinc 1 rfl (by decide) rfl rfl ?_
  exact x_goto rfl k
theorem uX4_someGo_157 {d : Nat} {Q : Int → yM → Prop} {M : yM} {x1 : Nat} {x2 : Int} {x4 : Int} {wx5 : Option yV} {wx6 : Option yV} {wx7 : Option yV} (h1 : -2147483648 ≤ (zcmp x2 0) ∧ (zcmp x2 0) < 2147483648) (kt : (zcmp x2 0) = 0 → XW kX4_someGo d (some .boolean) (wQi Q) 167 [some (.inr (.inr 56)), some (.inr (.inr x1)), some (.inr (.inl x2)), none, some (.inl x4), wx5, wx6, wx7] [] M) (kf : (zcmp x2 0) ≠ 0 → XW kX4_someGo d (some .boolean) (wQi Q) 163 [some (.inr (.inr 56)), some (.inr (.inr x1)), some (.inr (.inl x2)), none, some (.inl x4), wx5, wx6, wx7] [] M) : XW kX4_someGo d (some .boolean) (wQi Q) 157 [some (.inr (.inr 56)), some (.inr (.inr x1)), some (.inr (.inl x2)), none, some (.inl x4), wx5, wx6, wx7] [] M := by
  refine x_lload_n rfl rfl ?_
  refine x_lconst 0 rfl (by decide) ?_
  refine x_lcmp rfl ?_
  exact x_ifeq rfl h1 kt kf
theorem uX4_someGo_163 {d : Nat} {Q : Int → yM → Prop} {M : yM} {x1 : Nat} {x2 : Int} {x4 : Int} {wx5 : Option yV} {wx6 : Option yV} {wx7 : Option yV} (k : XW kX4_someGo d (some .boolean) (wQi Q) 168 [some (.inr (.inr 56)), some (.inr (.inr x1)), some (.inr (.inl x2)), none, some (.inl x4), wx5, wx6, wx7] [.inl 1] M) : XW kX4_someGo d (some .boolean) (wQi Q) 163 [some (.inr (.inr 56)), some (.inr (.inr x1)), some (.inr (.inl x2)), none, some (.inl x4), wx5, wx6, wx7] [] M := by
  refine x_iconst 1 rfl (by decide) ?_
  exact x_goto rfl k
theorem uX4_someGo_167 {d : Nat} {Q : Int → yM → Prop} {M : yM} {x1 : Nat} {x2 : Int} {x4 : Int} {wx5 : Option yV} {wx6 : Option yV} {wx7 : Option yV} (k : XW kX4_someGo d (some .boolean) (wQi Q) 168 [some (.inr (.inr 56)), some (.inr (.inr x1)), some (.inr (.inl x2)), none, some (.inl x4), wx5, wx6, wx7] [.inl 0] M) : XW kX4_someGo d (some .boolean) (wQi Q) 167 [some (.inr (.inr 56)), some (.inr (.inr x1)), some (.inr (.inl x2)), none, some (.inl x4), wx5, wx6, wx7] [] M := by
  refine x_iconst 0 rfl (by decide) ?_
  exact k
theorem uX4_someGo_168 {d : Nat} {Q : Int → yM → Prop} {M : yM} {x1 : Nat} {x2 : Int} {x4 : Int} {wx5 : Option yV} {wx6 : Option yV} {wx7 : Option yV} {s0 : Int} (h1 : s0 = 0 ∨ s0 = 1) (k : Q s0 M) : XW kX4_someGo d (some .boolean) (wQi Q) 168 [some (.inr (.inr 56)), some (.inr (.inr x1)), some (.inr (.inl x2)), none, some (.inl x4), wx5, wx6, wx7] [.inl s0] M := by
  exact x_zreturn rfl h1 k
