theorem eX12_fillings {d : Nat} {Q : Int → yM → Prop} {M : yM} {x1 : Int}  (h : XW kX12_fillings d (some .int) (wQi Q) 0 [some (.inr (.inr 92)), some (.inl x1)] [] M) : XCi d 156 [.inr (.inr 92), .inl x1] M Q :=
  XC.ofW (Mm := (yX12_fillings, cX12_fillings, 2, (some .int), 13, kX12_fillings)) rfl (rcv_ok sh92) rfl rfl h
theorem uX12_fillings_0 {d : Nat} {Q : Int → yM → Prop} {M : yM} {x1 : Int} (k : ∀ M', M' = (put M 92 0 0) → XW kX12_fillings d (some .int) (wQi Q) 5 [some (.inr (.inr 92)), some (.inl x1)] [] M') : XW kX12_fillings d (some .int) (wQi Q) 0 [some (.inr (.inr 92)), some (.inl x1)] [] M := by
  refine x_aload_n rfl rfl ?_
  refine x_iconst 0 rfl (by decide) ?_
  refine x_putI rfl rfl sh92 rfl ?_
  exact k _ rfl
theorem uX12_fillings_5 {d : Nat} {Q : Int → yM → Prop} {M : yM} {x1 : Int} (k : XCi d 120 [.inl x1, .inl 0, .inl 1] M (fun v M' => XW kX12_fillings (d + 1) (some .int) (wQi Q) 11 [some (.inr (.inr 92)), some (.inl x1)] [.inl v] M')) : XW kX12_fillings (d + 1) (some .int) (wQi Q) 5 [some (.inr (.inr 92)), some (.inl x1)] [] M := by
  refine x_iload_n rfl rfl ?_
  refine x_iconst 0 rfl (by decide) ?_
  refine x_iconst 1 rfl (by decide) ?_
  exact x_calli (args := [.inl x1, .inl 0, .inl 1]) rfl rfl rfl k
theorem uX12_fillings_11 {d : Nat} {Q : Int → yM → Prop} {M : yM} {x1 : Int} {s0 : Int} (h1 : -2147483648 ≤ s0 ∧ s0 < 2147483648) (kt : s0 ≠ 0 → XW kX12_fillings d (some .int) (wQi Q) 16 [some (.inr (.inr 92)), some (.inl x1)] [] M) (kf : s0 = 0 → XW kX12_fillings d (some .int) (wQi Q) 14 [some (.inr (.inr 92)), some (.inl x1)] [] M) : XW kX12_fillings d (some .int) (wQi Q) 11 [some (.inr (.inr 92)), some (.inl x1)] [.inl s0] M := by
  exact x_ifne rfl h1 kt kf
theorem uX12_fillings_14 {d : Nat} {Q : Int → yM → Prop} {M : yM} {x1 : Int} (k : Q (-1) M) : XW kX12_fillings d (some .int) (wQi Q) 14 [some (.inr (.inr 92)), some (.inl x1)] [] M := by
  refine x_iconst (-1) rfl (by decide) ?_
  exact x_ireturn rfl k
theorem uX12_fillings_16 {d : Nat} {Q : Int → yM → Prop} {M : yM} {x1 : Int} (k : XCv d 146 [.inr (.inr 92), .inl 0, .inl 64] M (fun M' => XW kX12_fillings (d + 1) (some .int) (wQi Q) 23 [some (.inr (.inr 92)), some (.inl x1)] [] M')) : XW kX12_fillings (d + 1) (some .int) (wQi Q) 16 [some (.inr (.inr 92)), some (.inl x1)] [] M := by
  refine x_aload_n rfl rfl ?_
  refine x_iconst 0 rfl (by decide) ?_
  refine x_bipush 64 rfl (by decide) ?_
  exact x_callv (args := [.inr (.inr 92), .inl 0, .inl 64]) rfl rfl rfl k
theorem uX12_fillings_23 {d : Nat} {Q : Int → yM → Prop} {M : yM} {x1 : Int} (h1 : -2147483648 ≤ x1 ∧ x1 < 2147483648) (kt : x1 ≠ 1 → XW kX12_fillings d (some .int) (wQi Q) 33 [some (.inr (.inr 92)), some (.inl x1)] [.inr (.inr 92)] M) (kf : x1 = 1 → XW kX12_fillings d (some .int) (wQi Q) 29 [some (.inr (.inr 92)), some (.inl x1)] [.inr (.inr 92)] M) : XW kX12_fillings d (some .int) (wQi Q) 23 [some (.inr (.inr 92)), some (.inl x1)] [] M := by
  refine x_aload_n rfl rfl ?_
  refine x_iload_n rfl rfl ?_
  refine x_iconst 1 rfl (by decide) ?_
  exact x_icmpne rfl h1 (by decide) kt kf
theorem uX12_fillings_29 {d : Nat} {Q : Int → yM → Prop} {M : yM} {x1 : Int} (k : XW kX12_fillings d (some .int) (wQi Q) 36 [some (.inr (.inr 92)), some (.inl x1)] [.inl 1, .inr (.inr 92)] M) : XW kX12_fillings d (some .int) (wQi Q) 29 [some (.inr (.inr 92)), some (.inl x1)] [.inr (.inr 92)] M := by
  refine x_iconst 1 rfl (by decide) ?_
  exact x_goto rfl k
theorem uX12_fillings_33 {d : Nat} {Q : Int → yM → Prop} {M : yM} {x1 : Int} (k : XW kX12_fillings d (some .int) (wQi Q) 36 [some (.inr (.inr 92)), some (.inl x1)] [.inl 20001, .inr (.inr 92)] M) : XW kX12_fillings d (some .int) (wQi Q) 33 [some (.inr (.inr 92)), some (.inl x1)] [.inr (.inr 92)] M := by
  refine x_sipush 20001 rfl (by decide) ?_
  exact k
theorem uX12_fillings_36 {d : Nat} {Q : Int → yM → Prop} {M : yM} {x1 : Int} {s0 : Int} (k : XCv d 154 [.inr (.inr 92), .inl s0] M (fun M' => XW kX12_fillings (d + 1) (some .int) (wQi Q) 39 [some (.inr (.inr 92)), some (.inl x1)] [] M')) : XW kX12_fillings (d + 1) (some .int) (wQi Q) 36 [some (.inr (.inr 92)), some (.inl x1)] [.inl s0, .inr (.inr 92)] M := by
  exact x_callv (args := [.inr (.inr 92), .inl s0]) rfl rfl rfl k
theorem uX12_fillings_39 {d : Nat} {Q : Int → yM → Prop} {M : yM} {x1 : Int} (h1 : -2147483648 ≤ x1 ∧ x1 < 2147483648) (kt : x1 ≠ 1 → XW kX12_fillings d (some .int) (wQi Q) 51 [some (.inr (.inr 92)), some (.inl x1)] [] M) (kf : x1 = 1 → XW kX12_fillings d (some .int) (wQi Q) 44 [some (.inr (.inr 92)), some (.inl x1)] [] M) : XW kX12_fillings d (some .int) (wQi Q) 39 [some (.inr (.inr 92)), some (.inl x1)] [] M := by
  refine x_iload_n rfl rfl ?_
  refine x_iconst 1 rfl (by decide) ?_
  exact x_icmpne rfl h1 (by decide) kt kf
theorem uX12_fillings_44 {d : Nat} {Q : Int → yM → Prop} {M : yM} {x1 : Int} (k : XW kX12_fillings d (some .int) (wQi Q) 70 [some (.inr (.inr 92)), some (.inl x1)] [.inl (ld M 92 17)] M) : XW kX12_fillings d (some .int) (wQi Q) 44 [some (.inr (.inr 92)), some (.inl x1)] [] M := by
  refine x_aload_n rfl rfl ?_
  refine x_getI rfl sh92 rfl ?_
  exact x_goto rfl k
theorem uX12_fillings_51 {d : Nat} {Q : Int → yM → Prop} {M : yM} {x1 : Int} (kt : (ld M 92 17) ≤ 20000 → XW kX12_fillings d (some .int) (wQi Q) 66 [some (.inr (.inr 92)), some (.inl x1)] [] M) (kf : (ld M 92 17) > 20000 → XW kX12_fillings d (some .int) (wQi Q) 61 [some (.inr (.inr 92)), some (.inl x1)] [] M) : XW kX12_fillings d (some .int) (wQi Q) 51 [some (.inr (.inr 92)), some (.inl x1)] [] M := by
  refine x_aload_n rfl rfl ?_
  refine x_getI rfl sh92 rfl ?_
  refine x_sipush 20000 rfl (by decide) ?_
  exact x_icmple rfl (rng_ld _ _ _) (by decide) kt kf
theorem uX12_fillings_61 {d : Nat} {Q : Int → yM → Prop} {M : yM} {x1 : Int} (k : XW kX12_fillings d (some .int) (wQi Q) 70 [some (.inr (.inr 92)), some (.inl x1)] [.inl (-5)] M) : XW kX12_fillings d (some .int) (wQi Q) 61 [some (.inr (.inr 92)), some (.inl x1)] [] M := by
  refine x_bipush (-5) rfl (by decide) ?_
  exact x_goto rfl k
theorem uX12_fillings_66 {d : Nat} {Q : Int → yM → Prop} {M : yM} {x1 : Int} (k : XW kX12_fillings d (some .int) (wQi Q) 70 [some (.inr (.inr 92)), some (.inl x1)] [.inl (ld M 92 17)] M) : XW kX12_fillings d (some .int) (wQi Q) 66 [some (.inr (.inr 92)), some (.inl x1)] [] M := by
  refine x_aload_n rfl rfl ?_
  refine x_getI rfl sh92 rfl ?_
  exact k
theorem uX12_fillings_70 {d : Nat} {Q : Int → yM → Prop} {M : yM} {x1 : Int} {s0 : Int} (k : Q s0 M) : XW kX12_fillings d (some .int) (wQi Q) 70 [some (.inr (.inr 92)), some (.inl x1)] [.inl s0] M := by
  exact x_ireturn rfl k
theorem eX12_first {d : Nat} {Q : Int → yM → Prop} {M : yM} {x1 : Int} {x2 : Int}  (h : XW kX12_first d (some .int) (wQi Q) 0 [some (.inr (.inr 92)), some (.inl x1), some (.inl x2)] [] M) : XCi d 157 [.inr (.inr 92), .inl x1, .inl x2] M Q :=
  XC.ofW (Mm := (yX12_first, cX12_first, 3, (some .int), 13, kX12_first)) rfl (rcv_ok sh92) rfl rfl h
theorem uX12_first_0 {d : Nat} {Q : Int → yM → Prop} {M : yM} {x1 : Int} {x2 : Int} (k : ∀ M', M' = (put M 92 0 0) → XW kX12_first d (some .int) (wQi Q) 5 [some (.inr (.inr 92)), some (.inl x1), some (.inl x2)] [] M') : XW kX12_first d (some .int) (wQi Q) 0 [some (.inr (.inr 92)), some (.inl x1), some (.inl x2)] [] M := by
  refine x_aload_n rfl rfl ?_
  refine x_iconst 0 rfl (by decide) ?_
  refine x_putI rfl rfl sh92 rfl ?_
  exact k _ rfl
theorem uX12_first_5 {d : Nat} {Q : Int → yM → Prop} {M : yM} {x1 : Int} {x2 : Int} (k : XCi d 124 [.inr (.inr 92), .inl x1] M (fun v M' => XW kX12_first (d + 1) (some .int) (wQi Q) 10 [some (.inr (.inr 92)), some (.inl x1), some (.inl x2)] [.inl v] M')) : XW kX12_first (d + 1) (some .int) (wQi Q) 5 [some (.inr (.inr 92)), some (.inl x1), some (.inl x2)] [] M := by
  refine x_aload_n rfl rfl ?_
  refine x_iload_n rfl rfl ?_
  exact x_calli (args := [.inr (.inr 92), .inl x1]) rfl rfl rfl k
theorem uX12_first_10 {d : Nat} {Q : Int → yM → Prop} {M : yM} {x1 : Int} {x2 : Int} {s0 : Int} (h1 : -2147483648 ≤ s0 ∧ s0 < 2147483648) (kt : s0 = 0 → XW kX12_first d (some .int) (wQi Q) 21 [some (.inr (.inr 92)), some (.inl x1), some (.inl x2)] [] M) (kf : s0 ≠ 0 → XW kX12_first d (some .int) (wQi Q) 13 [some (.inr (.inr 92)), some (.inl x1), some (.inl x2)] [] M) : XW kX12_first d (some .int) (wQi Q) 10 [some (.inr (.inr 92)), some (.inl x1), some (.inl x2)] [.inl s0] M := by
  exact x_ifeq rfl h1 kt kf
theorem uX12_first_13 {d : Nat} {Q : Int → yM → Prop} {M : yM} {x1 : Int} {x2 : Int} (k : XCi d 124 [.inr (.inr 92), .inl x2] M (fun v M' => XW kX12_first (d + 1) (some .int) (wQi Q) 18 [some (.inr (.inr 92)), some (.inl x1), some (.inl x2)] [.inl v] M')) : XW kX12_first (d + 1) (some .int) (wQi Q) 13 [some (.inr (.inr 92)), some (.inl x1), some (.inl x2)] [] M := by
  refine x_aload_n rfl rfl ?_
  refine x_iload_n rfl rfl ?_
  exact x_calli (args := [.inr (.inr 92), .inl x2]) rfl rfl rfl k
theorem uX12_first_18 {d : Nat} {Q : Int → yM → Prop} {M : yM} {x1 : Int} {x2 : Int} {s0 : Int} (h1 : -2147483648 ≤ s0 ∧ s0 < 2147483648) (kt : s0 ≠ 0 → XW kX12_first d (some .int) (wQi Q) 23 [some (.inr (.inr 92)), some (.inl x1), some (.inl x2)] [] M) (kf : s0 = 0 → XW kX12_first d (some .int) (wQi Q) 21 [some (.inr (.inr 92)), some (.inl x1), some (.inl x2)] [] M) : XW kX12_first d (some .int) (wQi Q) 18 [some (.inr (.inr 92)), some (.inl x1), some (.inl x2)] [.inl s0] M := by
  exact x_ifne rfl h1 kt kf
theorem uX12_first_21 {d : Nat} {Q : Int → yM → Prop} {M : yM} {x1 : Int} {x2 : Int} (k : Q (-1) M) : XW kX12_first d (some .int) (wQi Q) 21 [some (.inr (.inr 92)), some (.inl x1), some (.inl x2)] [] M := by
  refine x_iconst (-1) rfl (by decide) ?_
  exact x_ireturn rfl k
theorem uX12_first_23 {d : Nat} {Q : Int → yM → Prop} {M : yM} {x1 : Int} {x2 : Int} (k : XCv d 146 [.inr (.inr 92), .inl 0, .inl 64] M (fun M' => XW kX12_first (d + 1) (some .int) (wQi Q) 30 [some (.inr (.inr 92)), some (.inl x1), some (.inl x2)] [] M')) : XW kX12_first (d + 1) (some .int) (wQi Q) 23 [some (.inr (.inr 92)), some (.inl x1), some (.inl x2)] [] M := by
  refine x_aload_n rfl rfl ?_
  refine x_iconst 0 rfl (by decide) ?_
  refine x_bipush 64 rfl (by decide) ?_
  exact x_callv (args := [.inr (.inr 92), .inl 0, .inl 64]) rfl rfl rfl k
theorem uX12_first_30 {d : Nat} {Q : Int → yM → Prop} {M : yM} {x1 : Int} {x2 : Int} (k : XCv d 154 [.inr (.inr 92), .inl 1] M (fun M' => XW kX12_first (d + 1) (some .int) (wQi Q) 35 [some (.inr (.inr 92)), some (.inl x1), some (.inl x2)] [] M')) : XW kX12_first (d + 1) (some .int) (wQi Q) 30 [some (.inr (.inr 92)), some (.inl x1), some (.inl x2)] [] M := by
  refine x_aload_n rfl rfl ?_
  refine x_iconst 1 rfl (by decide) ?_
  exact x_callv (args := [.inr (.inr 92), .inl 1]) rfl rfl rfl k
theorem uX12_first_35 {d : Nat} {Q : Int → yM → Prop} {M : yM} {x1 : Int} {x2 : Int} (h1 : 0 ≤ ((8 * x1) + x2) ∧ ((8 * x1) + x2) < 64) (k : Q (ld M 104 ((8 * x1) + x2)) M) : XW kX12_first d (some .int) (wQi Q) 35 [some (.inr (.inr 92)), some (.inl x1), some (.inl x2)] [] M := by
  refine x_aload_n rfl rfl ?_
  refine x_getR rfl sh92 rfl ?_
  refine x_bipush 8 rfl (by decide) ?_
  refine x_iload_n rfl rfl ?_
  refine x_imul rfl ?_
  refine x_iload_n rfl rfl ?_
  refine x_iadd rfl ?_
  refine x_iaload rfl ⟨sh104, Nat.le_of_ble_eq_true rfl⟩ h1 ?_
  exact x_ireturn rfl k
theorem eX12_sure {d : Nat} {Q : Int → yM → Prop} {M : yM} {x1 : Int} {x2 : Int}  (h : XW kX12_sure d (some .int) (wQi Q) 0 [some (.inr (.inr 92)), some (.inl x1), some (.inl x2)] [] M) : XCi d 158 [.inr (.inr 92), .inl x1, .inl x2] M Q :=
  XC.ofW (Mm := (yX12_sure, cX12_sure, 3, (some .int), 13, kX12_sure)) rfl (rcv_ok sh92) rfl rfl h
theorem uX12_sure_0 {d : Nat} {Q : Int → yM → Prop} {M : yM} {x1 : Int} {x2 : Int} (k : ∀ M', M' = (put M 92 0 0) → XW kX12_sure d (some .int) (wQi Q) 5 [some (.inr (.inr 92)), some (.inl x1), some (.inl x2)] [] M') : XW kX12_sure d (some .int) (wQi Q) 0 [some (.inr (.inr 92)), some (.inl x1), some (.inl x2)] [] M := by
  refine x_aload_n rfl rfl ?_
  refine x_iconst 0 rfl (by decide) ?_
  refine x_putI rfl rfl sh92 rfl ?_
  exact k _ rfl
theorem uX12_sure_5 {d : Nat} {Q : Int → yM → Prop} {M : yM} {x1 : Int} {x2 : Int} (k : XCi d 124 [.inr (.inr 92), .inl x1] M (fun v M' => XW kX12_sure (d + 1) (some .int) (wQi Q) 10 [some (.inr (.inr 92)), some (.inl x1), some (.inl x2)] [.inl v] M')) : XW kX12_sure (d + 1) (some .int) (wQi Q) 5 [some (.inr (.inr 92)), some (.inl x1), some (.inl x2)] [] M := by
  refine x_aload_n rfl rfl ?_
  refine x_iload_n rfl rfl ?_
  exact x_calli (args := [.inr (.inr 92), .inl x1]) rfl rfl rfl k
theorem uX12_sure_10 {d : Nat} {Q : Int → yM → Prop} {M : yM} {x1 : Int} {x2 : Int} {s0 : Int} (h1 : -2147483648 ≤ s0 ∧ s0 < 2147483648) (kt : s0 = 0 → XW kX12_sure d (some .int) (wQi Q) 21 [some (.inr (.inr 92)), some (.inl x1), some (.inl x2)] [] M) (kf : s0 ≠ 0 → XW kX12_sure d (some .int) (wQi Q) 13 [some (.inr (.inr 92)), some (.inl x1), some (.inl x2)] [] M) : XW kX12_sure d (some .int) (wQi Q) 10 [some (.inr (.inr 92)), some (.inl x1), some (.inl x2)] [.inl s0] M := by
  exact x_ifeq rfl h1 kt kf
theorem uX12_sure_13 {d : Nat} {Q : Int → yM → Prop} {M : yM} {x1 : Int} {x2 : Int} (k : XCi d 124 [.inr (.inr 92), .inl x2] M (fun v M' => XW kX12_sure (d + 1) (some .int) (wQi Q) 18 [some (.inr (.inr 92)), some (.inl x1), some (.inl x2)] [.inl v] M')) : XW kX12_sure (d + 1) (some .int) (wQi Q) 13 [some (.inr (.inr 92)), some (.inl x1), some (.inl x2)] [] M := by
  refine x_aload_n rfl rfl ?_
  refine x_iload_n rfl rfl ?_
  exact x_calli (args := [.inr (.inr 92), .inl x2]) rfl rfl rfl k
theorem uX12_sure_18 {d : Nat} {Q : Int → yM → Prop} {M : yM} {x1 : Int} {x2 : Int} {s0 : Int} (h1 : -2147483648 ≤ s0 ∧ s0 < 2147483648) (kt : s0 ≠ 0 → XW kX12_sure d (some .int) (wQi Q) 23 [some (.inr (.inr 92)), some (.inl x1), some (.inl x2)] [] M) (kf : s0 = 0 → XW kX12_sure d (some .int) (wQi Q) 21 [some (.inr (.inr 92)), some (.inl x1), some (.inl x2)] [] M) : XW kX12_sure d (some .int) (wQi Q) 18 [some (.inr (.inr 92)), some (.inl x1), some (.inl x2)] [.inl s0] M := by
  exact x_ifne rfl h1 kt kf
theorem uX12_sure_21 {d : Nat} {Q : Int → yM → Prop} {M : yM} {x1 : Int} {x2 : Int} (k : Q (-1) M) : XW kX12_sure d (some .int) (wQi Q) 21 [some (.inr (.inr 92)), some (.inl x1), some (.inl x2)] [] M := by
  refine x_iconst (-1) rfl (by decide) ?_
  exact x_ireturn rfl k
theorem uX12_sure_23 {d : Nat} {Q : Int → yM → Prop} {M : yM} {x1 : Int} {x2 : Int} (k : XCv d 146 [.inr (.inr 92), .inl 0, .inl 64] M (fun M' => XW kX12_sure (d + 1) (some .int) (wQi Q) 30 [some (.inr (.inr 92)), some (.inl x1), some (.inl x2)] [] M')) : XW kX12_sure (d + 1) (some .int) (wQi Q) 23 [some (.inr (.inr 92)), some (.inl x1), some (.inl x2)] [] M := by
  refine x_aload_n rfl rfl ?_
  refine x_iconst 0 rfl (by decide) ?_
  refine x_bipush 64 rfl (by decide) ?_
  exact x_callv (args := [.inr (.inr 92), .inl 0, .inl 64]) rfl rfl rfl k
theorem uX12_sure_30 {d : Nat} {Q : Int → yM → Prop} {M : yM} {x1 : Int} {x2 : Int} (k : XCv d 154 [.inr (.inr 92), .inl 20001] M (fun M' => XW kX12_sure (d + 1) (some .int) (wQi Q) 37 [some (.inr (.inr 92)), some (.inl x1), some (.inl x2)] [] M')) : XW kX12_sure (d + 1) (some .int) (wQi Q) 30 [some (.inr (.inr 92)), some (.inl x1), some (.inl x2)] [] M := by
  refine x_aload_n rfl rfl ?_
  refine x_sipush 20001 rfl (by decide) ?_
  exact x_callv (args := [.inr (.inr 92), .inl 20001]) rfl rfl rfl k
theorem uX12_sure_37 {d : Nat} {Q : Int → yM → Prop} {M : yM} {x1 : Int} {x2 : Int} (kt : (ld M 92 17) ≤ 20000 → XW kX12_sure d (some .int) (wQi Q) 52 [some (.inr (.inr 92)), some (.inl x1), some (.inl x2)] [] M) (kf : (ld M 92 17) > 20000 → XW kX12_sure d (some .int) (wQi Q) 47 [some (.inr (.inr 92)), some (.inl x1), some (.inl x2)] [] M) : XW kX12_sure d (some .int) (wQi Q) 37 [some (.inr (.inr 92)), some (.inl x1), some (.inl x2)] [] M := by
  refine x_aload_n rfl rfl ?_
  refine x_getI rfl sh92 rfl ?_
  refine x_sipush 20000 rfl (by decide) ?_
  exact x_icmple rfl (rng_ld _ _ _) (by decide) kt kf
theorem uX12_sure_47 {d : Nat} {Q : Int → yM → Prop} {M : yM} {x1 : Int} {x2 : Int} (k : XW kX12_sure d (some .int) (wQi Q) 63 [some (.inr (.inr 92)), some (.inl x1), some (.inl x2)] [.inl (-5)] M) : XW kX12_sure d (some .int) (wQi Q) 47 [some (.inr (.inr 92)), some (.inl x1), some (.inl x2)] [] M := by
  refine x_bipush (-5) rfl (by decide) ?_
  exact x_goto rfl k
theorem uX12_sure_52 {d : Nat} {Q : Int → yM → Prop} {M : yM} {x1 : Int} {x2 : Int} (h1 : 0 ≤ ((8 * x1) + x2) ∧ ((8 * x1) + x2) < 64) (k : XW kX12_sure d (some .int) (wQi Q) 63 [some (.inr (.inr 92)), some (.inl x1), some (.inl x2)] [.inl (ld M 105 ((8 * x1) + x2))] M) : XW kX12_sure d (some .int) (wQi Q) 52 [some (.inr (.inr 92)), some (.inl x1), some (.inl x2)] [] M := by
  refine x_aload_n rfl rfl ?_
  refine x_getR rfl sh92 rfl ?_
  refine x_bipush 8 rfl (by decide) ?_
  refine x_iload_n rfl rfl ?_
  refine x_imul rfl ?_
  refine x_iload_n rfl rfl ?_
  refine x_iadd rfl ?_
  refine x_iaload rfl ⟨sh105, Nat.le_of_ble_eq_true rfl⟩ h1 ?_
  exact k
theorem uX12_sure_63 {d : Nat} {Q : Int → yM → Prop} {M : yM} {x1 : Int} {x2 : Int} {s0 : Int} (k : Q s0 M) : XW kX12_sure d (some .int) (wQi Q) 63 [some (.inr (.inr 92)), some (.inl x1), some (.inl x2)] [.inl s0] M := by
  exact x_ireturn rfl k
theorem eX12_ones {d : Nat} {Q : Int → yM → Prop} {M : yM} {x0 : Int}  (h : XW kX12_ones d (some .int) (wQi Q) 0 [some (.inl x0), none, none] [] M) : XCi d 159 [.inl x0] M Q :=
  XC.ofW (Mm := (yX12_ones, cX12_ones, 3, (some .int), 0, kX12_ones)) rfl rfl rfl rfl h
theorem uX12_ones_0 {d : Nat} {Q : Int → yM → Prop} {M : yM} {x0 : Int} (k : XW kX12_ones d (some .int) (wQi Q) 4 [some (.inl x0), some (.inl 0), some (.inl 0)] [] M) : XW kX12_ones d (some .int) (wQi Q) 0 [some (.inl x0), none, none] [] M := by
  refine x_iconst 0 rfl (by decide) ?_
  refine x_istore_n rfl (Nat.le_of_ble_eq_true rfl) rfl ?_
  refine x_iconst 0 rfl (by decide) ?_
  refine x_istore_n rfl (Nat.le_of_ble_eq_true rfl) rfl ?_
  exact k
theorem uX12_ones_4 {d : Nat} {Q : Int → yM → Prop} {M : yM} {x0 : Int} {x1 : Int} {x2 : Int} (h1 : -2147483648 ≤ x2 ∧ x2 < 2147483648) (kt : x2 ≥ 12 → XW kX12_ones d (some .int) (wQi Q) 24 [some (.inl x0), some (.inl x1), some (.inl x2)] [] M) (kf : x2 < 12 → XW kX12_ones d (some .int) (wQi Q) 10 [some (.inl x0), some (.inl x1), some (.inl x2)] [] M) : XW kX12_ones d (some .int) (wQi Q) 4 [some (.inl x0), some (.inl x1), some (.inl x2)] [] M := by
  refine x_iload_n rfl rfl ?_
  refine x_bipush 12 rfl (by decide) ?_
  exact x_icmpge rfl h1 (by decide) kt kf
theorem uX12_ones_10 {d : Nat} {Q : Int → yM → Prop} {M : yM} {x0 : Int} {x1 : Int} {x2 : Int} (k : XW kX12_ones d (some .int) (wQi Q) 4 [some (.inl x0), some (.inl (x1 + (yand (yshr x0 x2) 1))), some (.inl (x2 + 1))] [] M) : XW kX12_ones d (some .int) (wQi Q) 10 [some (.inl x0), some (.inl x1), some (.inl x2)] [] M := by
  refine x_iload_n rfl rfl ?_
  refine x_iload_n rfl rfl ?_
  refine x_iload_n rfl rfl ?_
  refine x_ishr rfl ?_
  refine x_iconst 1 rfl (by decide) ?_
  refine x_iand rfl ?_
  refine x_iadd rfl ?_
  refine x_istore_n rfl (Nat.le_of_ble_eq_true rfl) rfl ?_
  refine x_iinc 1 rfl (by decide) rfl rfl ?_
  exact x_goto rfl k
theorem uX12_ones_24 {d : Nat} {Q : Int → yM → Prop} {M : yM} {x0 : Int} {x1 : Int} {x2 : Int} (k : Q x1 M) : XW kX12_ones d (some .int) (wQi Q) 24 [some (.inl x0), some (.inl x1), some (.inl x2)] [] M := by
  refine x_iload_n rfl rfl ?_
  exact x_ireturn rfl k
theorem eX12_has {d : Nat} {Q : Int → yM → Prop} {M : yM} {x1 : Int}  (h : XW kX12_has d (some .boolean) (wQi Q) 0 [some (.inr (.inr 92)), some (.inl x1), none, none, none, none, none] [] M) : XCi d 160 [.inr (.inr 92), .inl x1] M Q :=
  XC.ofW (Mm := (yX12_has, cX12_has, 7, (some .boolean), 13, kX12_has)) rfl (rcv_ok sh92) rfl rfl h
theorem uX12_has_0 {d : Nat} {Q : Int → yM → Prop} {M : yM} {x1 : Int} (k : XW kX12_has d (some .boolean) (wQi Q) 4 [some (.inr (.inr 92)), some (.inl x1), some (.inl 0), some (.inl 0), none, none, none] [] M) : XW kX12_has d (some .boolean) (wQi Q) 0 [some (.inr (.inr 92)), some (.inl x1), none, none, none, none, none] [] M := by
  refine x_iconst 0 rfl (by decide) ?_
  refine x_istore_n rfl (Nat.le_of_ble_eq_true rfl) rfl ?_
  refine x_iconst 0 rfl (by decide) ?_
  refine x_istore_n rfl (Nat.le_of_ble_eq_true rfl) rfl ?_
  exact k
theorem uX12_has_4 {d : Nat} {Q : Int → yM → Prop} {M : yM} {x1 : Int} {x2 : Int} {x3 : Int} {wx4 : Option yV} {wx5 : Option yV} {wx6 : Option yV} (h1 : -2147483648 ≤ x3 ∧ x3 < 2147483648) (kt : x3 ≥ (ld M 92 11) → XW kX12_has d (some .boolean) (wQi Q) 128 [some (.inr (.inr 92)), some (.inl x1), some (.inl x2), some (.inl x3), wx4, wx5, wx6] [] M) (kf : x3 < (ld M 92 11) → XW kX12_has d (some .boolean) (wQi Q) 12 [some (.inr (.inr 92)), some (.inl x1), some (.inl x2), some (.inl x3), wx4, wx5, wx6] [] M) : XW kX12_has d (some .boolean) (wQi Q) 4 [some (.inr (.inr 92)), some (.inl x1), some (.inl x2), some (.inl x3), wx4, wx5, wx6] [] M := by
  refine x_iload_n rfl rfl ?_
  refine x_aload_n rfl rfl ?_
  refine x_getI rfl sh92 rfl ?_
  exact x_icmpge rfl h1 (rng_ld _ _ _) kt kf
theorem uX12_has_12 {d : Nat} {Q : Int → yM → Prop} {M : yM} {x1 : Int} {x2 : Int} {x3 : Int} {wx4 : Option yV} {wx5 : Option yV} {wx6 : Option yV} (h1 : 0 ≤ ((64 + (8 * x3)) + x3) ∧ ((64 + (8 * x3)) + x3) < 2048) (k : ∀ M', M' = (put M 100 ((64 + (8 * x3)) + x3) 1) → XW kX12_has d (some .boolean) (wQi Q) 27 [some (.inr (.inr 92)), some (.inl x1), some (.inl x2), some (.inl x3), wx4, wx5, wx6] [] M') : XW kX12_has d (some .boolean) (wQi Q) 12 [some (.inr (.inr 92)), some (.inl x1), some (.inl x2), some (.inl x3), wx4, wx5, wx6] [] M := by
  refine x_aload_n rfl rfl ?_
  refine x_getR rfl sh92 rfl ?_
  refine x_bipush 64 rfl (by decide) ?_
  refine x_bipush 8 rfl (by decide) ?_
  refine x_iload_n rfl rfl ?_
  refine x_imul rfl ?_
  refine x_iadd rfl ?_
  refine x_iload_n rfl rfl ?_
  refine x_iadd rfl ?_
  refine x_iconst 1 rfl (by decide) ?_
  refine x_iastore rfl ⟨sh100, Nat.le_of_ble_eq_true rfl⟩ h1  ?_
  exact k _ rfl
theorem uX12_has_27 {d : Nat} {Q : Int → yM → Prop} {M : yM} {x1 : Int} {x2 : Int} {x3 : Int} {wx4 : Option yV} {wx5 : Option yV} {wx6 : Option yV} (k : XW kX12_has d (some .boolean) (wQi Q) 32 [some (.inr (.inr 92)), some (.inl x1), some (.inl x2), some (.inl x3), some (.inl (x3 + 1)), wx5, wx6] [] M) : XW kX12_has d (some .boolean) (wQi Q) 27 [some (.inr (.inr 92)), some (.inl x1), some (.inl x2), some (.inl x3), wx4, wx5, wx6] [] M := by
  refine x_iload_n rfl rfl ?_
  refine x_iconst 1 rfl (by decide) ?_
  refine x_iadd rfl ?_
  refine x_istore rfl (Nat.le_of_ble_eq_true rfl) rfl ?_
  exact k
theorem uX12_has_32 {d : Nat} {Q : Int → yM → Prop} {M : yM} {x1 : Int} {x2 : Int} {x3 : Int} {x4 : Int} {wx5 : Option yV} {wx6 : Option yV} (h1 : -2147483648 ≤ x4 ∧ x4 < 2147483648) (kt : x4 ≥ (ld M 92 11) → XW kX12_has d (some .boolean) (wQi Q) 122 [some (.inr (.inr 92)), some (.inl x1), some (.inl x2), some (.inl x3), some (.inl x4), wx5, wx6] [] M) (kf : x4 < (ld M 92 11) → XW kX12_has d (some .boolean) (wQi Q) 41 [some (.inr (.inr 92)), some (.inl x1), some (.inl x2), some (.inl x3), some (.inl x4), wx5, wx6] [] M) : XW kX12_has d (some .boolean) (wQi Q) 32 [some (.inr (.inr 92)), some (.inl x1), some (.inl x2), some (.inl x3), some (.inl x4), wx5, wx6] [] M := by
  refine x_iload rfl rfl ?_
  refine x_aload_n rfl rfl ?_
  refine x_getI rfl sh92 rfl ?_
  exact x_icmpge rfl h1 (rng_ld _ _ _) kt kf
theorem uX12_has_41 {d : Nat} {Q : Int → yM → Prop} {M : yM} {x1 : Int} {x2 : Int} {x3 : Int} {x4 : Int} {wx5 : Option yV} {wx6 : Option yV} (h1 : 0 ≤ ((8 * x3) + x4) ∧ ((8 * x3) + x4) < 2048) (k : XCi d 121 [.inr (.inr 92)] M (fun v M' => XW kX12_has (d + 1) (some .boolean) (wQi Q) 61 [some (.inr (.inr 92)), some (.inl x1), some (.inl x2), some (.inl x3), some (.inl x4), some (.inl (ld M 100 ((8 * x3) + x4))), wx6] [.inl v, .inl (ld M 100 ((8 * x3) + x4))] M')) : XW kX12_has (d + 1) (some .boolean) (wQi Q) 41 [some (.inr (.inr 92)), some (.inl x1), some (.inl x2), some (.inl x3), some (.inl x4), wx5, wx6] [] M := by
  refine x_aload_n rfl rfl ?_
  refine x_getR rfl sh92 rfl ?_
  refine x_bipush 8 rfl (by decide) ?_
  refine x_iload_n rfl rfl ?_
  refine x_imul rfl ?_
  refine x_iload rfl rfl ?_
  refine x_iadd rfl ?_
  refine x_iaload rfl ⟨sh100, Nat.le_of_ble_eq_true rfl⟩ h1 ?_
  refine x_istore rfl (Nat.le_of_ble_eq_true rfl) rfl ?_
  refine x_iload rfl rfl ?_
  refine x_aload_n rfl rfl ?_
  exact x_calli (args := [.inr (.inr 92)]) rfl rfl rfl k
theorem uX12_has_61 {d : Nat} {Q : Int → yM → Prop} {M : yM} {x1 : Int} {x2 : Int} {x3 : Int} {x4 : Int} {x5 : Int} {wx6 : Option yV} {s0 : Int} {s1 : Int} (h1 : -2147483648 ≤ s1 ∧ s1 < 2147483648) (h2 : -2147483648 ≤ s0 ∧ s0 < 2147483648) (kt : s1 = s0 → XW kX12_has d (some .boolean) (wQi Q) 68 [some (.inr (.inr 92)), some (.inl x1), some (.inl x2), some (.inl x3), some (.inl x4), some (.inl x5), wx6] [] M) (kf : s1 ≠ s0 → XW kX12_has d (some .boolean) (wQi Q) 64 [some (.inr (.inr 92)), some (.inl x1), some (.inl x2), some (.inl x3), some (.inl x4), some (.inl x5), wx6] [] M) : XW kX12_has d (some .boolean) (wQi Q) 61 [some (.inr (.inr 92)), some (.inl x1), some (.inl x2), some (.inl x3), some (.inl x4), some (.inl x5), wx6] [.inl s0, .inl s1] M := by
  exact x_icmpeq rfl h1 h2 kt kf
theorem uX12_has_64 {d : Nat} {Q : Int → yM → Prop} {M : yM} {x1 : Int} {x2 : Int} {x3 : Int} {x4 : Int} {x5 : Int} {wx6 : Option yV} (k : XW kX12_has d (some .boolean) (wQi Q) 69 [some (.inr (.inr 92)), some (.inl x1), some (.inl x2), some (.inl x3), some (.inl x4), some (.inl x5), wx6] [.inl 1] M) : XW kX12_has d (some .boolean) (wQi Q) 64 [some (.inr (.inr 92)), some (.inl x1), some (.inl x2), some (.inl x3), some (.inl x4), some (.inl x5), wx6] [] M := by
  refine x_iconst 1 rfl (by decide) ?_
  exact x_goto rfl k
theorem uX12_has_68 {d : Nat} {Q : Int → yM → Prop} {M : yM} {x1 : Int} {x2 : Int} {x3 : Int} {x4 : Int} {x5 : Int} {wx6 : Option yV} (k : XW kX12_has d (some .boolean) (wQi Q) 69 [some (.inr (.inr 92)), some (.inl x1), some (.inl x2), some (.inl x3), some (.inl x4), some (.inl x5), wx6] [.inl 0] M) : XW kX12_has d (some .boolean) (wQi Q) 68 [some (.inr (.inr 92)), some (.inl x1), some (.inl x2), some (.inl x3), some (.inl x4), some (.inl x5), wx6] [] M := by
  refine x_iconst 0 rfl (by decide) ?_
  exact k
theorem uX12_has_69 {d : Nat} {Q : Int → yM → Prop} {M : yM} {x1 : Int} {x2 : Int} {x3 : Int} {x4 : Int} {x5 : Int} {wx6 : Option yV} {s0 : Int} (h1 : -2147483648 ≤ s0 ∧ s0 < 2147483648) (kt : s0 = 0 → XW kX12_has d (some .boolean) (wQi Q) 96 [some (.inr (.inr 92)), some (.inl x1), some (.inl x2), some (.inl x3), some (.inl x4), some (.inl x5), some (.inl s0)] [.inl x4, .inl x3, .inl 64, .inr (.inr 92)] M) (kf : s0 ≠ 0 → XW kX12_has d (some .boolean) (wQi Q) 82 [some (.inr (.inr 92)), some (.inl x1), some (.inl x2), some (.inl x3), some (.inl x4), some (.inl x5), some (.inl s0)] [.inl x4, .inl x3, .inl 64, .inr (.inr 92)] M) : XW kX12_has d (some .boolean) (wQi Q) 69 [some (.inr (.inr 92)), some (.inl x1), some (.inl x2), some (.inl x3), some (.inl x4), some (.inl x5), wx6] [.inl s0] M := by
  refine x_istore rfl (Nat.le_of_ble_eq_true rfl) rfl ?_
  refine x_aload_n rfl rfl ?_
  refine x_bipush 64 rfl (by decide) ?_
  refine x_iload_n rfl rfl ?_
  refine x_iload rfl rfl ?_
  refine x_iload rfl rfl ?_
  exact x_ifeq rfl h1 kt kf
theorem uX12_has_82 {d : Nat} {Q : Int → yM → Prop} {M : yM} {x1 : Int} {x2 : Int} {x3 : Int} {x4 : Int} {x5 : Int} {x6 : Int} {s0 : Int} {s1 : Int} {s2 : Int} (kt : (yand (yshr x1 x2) 1) ≠ 1 → XW kX12_has d (some .boolean) (wQi Q) 96 [some (.inr (.inr 92)), some (.inl x1), some (.inl x2), some (.inl x3), some (.inl x4), some (.inl x5), some (.inl x6)] [.inl s0, .inl s1, .inl s2, .inr (.inr 92)] M) (kf : (yand (yshr x1 x2) 1) = 1 → XW kX12_has d (some .boolean) (wQi Q) 91 [some (.inr (.inr 92)), some (.inl x1), some (.inl x2), some (.inl x3), some (.inl x4), some (.inl x5), some (.inl x6)] [.inl s0, .inl s1, .inl s2, .inr (.inr 92)] M) : XW kX12_has d (some .boolean) (wQi Q) 82 [some (.inr (.inr 92)), some (.inl x1), some (.inl x2), some (.inl x3), some (.inl x4), some (.inl x5), some (.inl x6)] [.inl s0, .inl s1, .inl s2, .inr (.inr 92)] M := by
  refine x_iload_n rfl rfl ?_
  refine x_iload_n rfl rfl ?_
  refine x_ishr rfl ?_
  refine x_iconst 1 rfl (by decide) ?_
  refine x_iand rfl ?_
  refine x_iconst 1 rfl (by decide) ?_
  exact x_icmpne rfl (rng_yand _ _) (by decide) kt kf
theorem uX12_has_91 {d : Nat} {Q : Int → yM → Prop} {M : yM} {x1 : Int} {x2 : Int} {x3 : Int} {x4 : Int} {x5 : Int} {x6 : Int} {s0 : Int} {s1 : Int} {s2 : Int} (k : XW kX12_has d (some .boolean) (wQi Q) 100 [some (.inr (.inr 92)), some (.inl x1), some (.inl x2), some (.inl x3), some (.inl x4), some (.inl x5), some (.inl x6)] [.inl x5, .inl s0, .inl s1, .inl s2, .inr (.inr 92)] M) : XW kX12_has d (some .boolean) (wQi Q) 91 [some (.inr (.inr 92)), some (.inl x1), some (.inl x2), some (.inl x3), some (.inl x4), some (.inl x5), some (.inl x6)] [.inl s0, .inl s1, .inl s2, .inr (.inr 92)] M := by
  refine x_iload rfl rfl ?_
  exact x_goto rfl k
theorem uX12_has_96 {d : Nat} {Q : Int → yM → Prop} {M : yM} {x1 : Int} {x2 : Int} {x3 : Int} {x4 : Int} {x5 : Int} {x6 : Int} {s0 : Int} {s1 : Int} {s2 : Int} (k : XCi d 121 [.inr (.inr 92)] M (fun v M' => XW kX12_has (d + 1) (some .boolean) (wQi Q) 100 [some (.inr (.inr 92)), some (.inl x1), some (.inl x2), some (.inl x3), some (.inl x4), some (.inl x5), some (.inl x6)] [.inl v, .inl s0, .inl s1, .inl s2, .inr (.inr 92)] M')) : XW kX12_has (d + 1) (some .boolean) (wQi Q) 96 [some (.inr (.inr 92)), some (.inl x1), some (.inl x2), some (.inl x3), some (.inl x4), some (.inl x5), some (.inl x6)] [.inl s0, .inl s1, .inl s2, .inr (.inr 92)] M := by
  refine x_aload_n rfl rfl ?_
  exact x_calli (args := [.inr (.inr 92)]) rfl rfl rfl k
theorem uX12_has_100 {d : Nat} {Q : Int → yM → Prop} {M : yM} {x1 : Int} {x2 : Int} {x3 : Int} {x4 : Int} {x5 : Int} {x6 : Int} {s0 : Int} {s1 : Int} {s2 : Int} {s3 : Int} (k : XCv d 144 [.inr (.inr 92), .inl s3, .inl s2, .inl s1, .inl s0] M (fun M' => XW kX12_has (d + 1) (some .boolean) (wQi Q) 103 [some (.inr (.inr 92)), some (.inl x1), some (.inl x2), some (.inl x3), some (.inl x4), some (.inl x5), some (.inl x6)] [] M')) : XW kX12_has (d + 1) (some .boolean) (wQi Q) 100 [some (.inr (.inr 92)), some (.inl x1), some (.inl x2), some (.inl x3), some (.inl x4), some (.inl x5), some (.inl x6)] [.inl s0, .inl s1, .inl s2, .inl s3, .inr (.inr 92)] M := by
  exact x_callv (args := [.inr (.inr 92), .inl s3, .inl s2, .inl s1, .inl s0]) rfl rfl rfl k
theorem uX12_has_103 {d : Nat} {Q : Int → yM → Prop} {M : yM} {x1 : Int} {x2 : Int} {x3 : Int} {x4 : Int} {x5 : Int} {x6 : Int} (h1 : -2147483648 ≤ x6 ∧ x6 < 2147483648) (kt : x6 = 0 → XW kX12_has d (some .boolean) (wQi Q) 113 [some (.inr (.inr 92)), some (.inl x1), some (.inl x2), some (.inl x3), some (.inl x4), some (.inl x5), some (.inl x6)] [.inl x2] M) (kf : x6 ≠ 0 → XW kX12_has d (some .boolean) (wQi Q) 109 [some (.inr (.inr 92)), some (.inl x1), some (.inl x2), some (.inl x3), some (.inl x4), some (.inl x5), some (.inl x6)] [.inl x2] M) : XW kX12_has d (some .boolean) (wQi Q) 103 [some (.inr (.inr 92)), some (.inl x1), some (.inl x2), some (.inl x3), some (.inl x4), some (.inl x5), some (.inl x6)] [] M := by
  refine x_iload_n rfl rfl ?_
  refine x_iload rfl rfl ?_
  exact x_ifeq rfl h1 kt kf
theorem uX12_has_109 {d : Nat} {Q : Int → yM → Prop} {M : yM} {x1 : Int} {x2 : Int} {x3 : Int} {x4 : Int} {x5 : Int} {x6 : Int} {s0 : Int} (k : XW kX12_has d (some .boolean) (wQi Q) 114 [some (.inr (.inr 92)), some (.inl x1), some (.inl x2), some (.inl x3), some (.inl x4), some (.inl x5), some (.inl x6)] [.inl 1, .inl s0] M) : XW kX12_has d (some .boolean) (wQi Q) 109 [some (.inr (.inr 92)), some (.inl x1), some (.inl x2), some (.inl x3), some (.inl x4), some (.inl x5), some (.inl x6)] [.inl s0] M := by
  refine x_iconst 1 rfl (by decide) ?_
  exact x_goto rfl k
theorem uX12_has_113 {d : Nat} {Q : Int → yM → Prop} {M : yM} {x1 : Int} {x2 : Int} {x3 : Int} {x4 : Int} {x5 : Int} {x6 : Int} {s0 : Int} (k : XW kX12_has d (some .boolean) (wQi Q) 114 [some (.inr (.inr 92)), some (.inl x1), some (.inl x2), some (.inl x3), some (.inl x4), some (.inl x5), some (.inl x6)] [.inl 0, .inl s0] M) : XW kX12_has d (some .boolean) (wQi Q) 113 [some (.inr (.inr 92)), some (.inl x1), some (.inl x2), some (.inl x3), some (.inl x4), some (.inl x5), some (.inl x6)] [.inl s0] M := by
  refine x_iconst 0 rfl (by decide) ?_
  exact k
theorem uX12_has_114 {d : Nat} {Q : Int → yM → Prop} {M : yM} {x1 : Int} {x2 : Int} {x3 : Int} {x4 : Int} {x5 : Int} {x6 : Int} {s0 : Int} {s1 : Int} (k : XW kX12_has d (some .boolean) (wQi Q) 32 [some (.inr (.inr 92)), some (.inl x1), some (.inl (s1 + s0)), some (.inl x3), some (.inl (x4 + 1)), some (.inl x5), some (.inl x6)] [] M) : XW kX12_has d (some .boolean) (wQi Q) 114 [some (.inr (.inr 92)), some (.inl x1), some (.inl x2), some (.inl x3), some (.inl x4), some (.inl x5), some (.inl x6)] [.inl s0, .inl s1] M := by
  refine x_iadd rfl ?_
  refine x_istore_n rfl (Nat.le_of_ble_eq_true rfl) rfl ?_
  refine x_iinc 1 rfl (by decide) rfl rfl ?_
  exact x_goto rfl k
theorem uX12_has_122 {d : Nat} {Q : Int → yM → Prop} {M : yM} {x1 : Int} {x2 : Int} {x3 : Int} {x4 : Int} {wx5 : Option yV} {wx6 : Option yV} (k : XW kX12_has d (some .boolean) (wQi Q) 4 [some (.inr (.inr 92)), some (.inl x1), some (.inl x2), some (.inl (x3 + 1)), some (.inl x4), wx5, wx6] [] M) : XW kX12_has d (some .boolean) (wQi Q) 122 [some (.inr (.inr 92)), some (.inl x1), some (.inl x2), some (.inl x3), some (.inl x4), wx5, wx6] [] M := by
  refine x_iinc 1 rfl (by decide) rfl rfl ?_
  exact x_goto rfl k
theorem uX12_has_128 {d : Nat} {Q : Int → yM → Prop} {M : yM} {x1 : Int} {x2 : Int} {x3 : Int} {wx4 : Option yV} {wx5 : Option yV} {wx6 : Option yV} (k : XCv d 154 [.inr (.inr 92), .inl 1] M (fun M' => XW kX12_has (d + 1) (some .boolean) (wQi Q) 133 [some (.inr (.inr 92)), some (.inl x1), some (.inl x2), some (.inl x3), wx4, wx5, wx6] [] M')) : XW kX12_has (d + 1) (some .boolean) (wQi Q) 128 [some (.inr (.inr 92)), some (.inl x1), some (.inl x2), some (.inl x3), wx4, wx5, wx6] [] M := by
  refine x_aload_n rfl rfl ?_
  refine x_iconst 1 rfl (by decide) ?_
  exact x_callv (args := [.inr (.inr 92), .inl 1]) rfl rfl rfl k
theorem uX12_has_133 {d : Nat} {Q : Int → yM → Prop} {M : yM} {x1 : Int} {x2 : Int} {x3 : Int} {wx4 : Option yV} {wx5 : Option yV} {wx6 : Option yV} (kt : (ld M 92 17) ≤ 0 → XW kX12_has d (some .boolean) (wQi Q) 144 [some (.inr (.inr 92)), some (.inl x1), some (.inl x2), some (.inl x3), wx4, wx5, wx6] [] M) (kf : (ld M 92 17) > 0 → XW kX12_has d (some .boolean) (wQi Q) 140 [some (.inr (.inr 92)), some (.inl x1), some (.inl x2), some (.inl x3), wx4, wx5, wx6] [] M) : XW kX12_has d (some .boolean) (wQi Q) 133 [some (.inr (.inr 92)), some (.inl x1), some (.inl x2), some (.inl x3), wx4, wx5, wx6] [] M := by
  refine x_aload_n rfl rfl ?_
  refine x_getI rfl sh92 rfl ?_
  exact x_ifle rfl (rng_ld _ _ _) kt kf
theorem uX12_has_140 {d : Nat} {Q : Int → yM → Prop} {M : yM} {x1 : Int} {x2 : Int} {x3 : Int} {wx4 : Option yV} {wx5 : Option yV} {wx6 : Option yV} (k : XW kX12_has d (some .boolean) (wQi Q) 145 [some (.inr (.inr 92)), some (.inl x1), some (.inl x2), some (.inl x3), wx4, wx5, wx6] [.inl 1] M) : XW kX12_has d (some .boolean) (wQi Q) 140 [some (.inr (.inr 92)), some (.inl x1), some (.inl x2), some (.inl x3), wx4, wx5, wx6] [] M := by
  refine x_iconst 1 rfl (by decide) ?_
  exact x_goto rfl k
theorem uX12_has_144 {d : Nat} {Q : Int → yM → Prop} {M : yM} {x1 : Int} {x2 : Int} {x3 : Int} {wx4 : Option yV} {wx5 : Option yV} {wx6 : Option yV} (k : XW kX12_has d (some .boolean) (wQi Q) 145 [some (.inr (.inr 92)), some (.inl x1), some (.inl x2), some (.inl x3), wx4, wx5, wx6] [.inl 0] M) : XW kX12_has d (some .boolean) (wQi Q) 144 [some (.inr (.inr 92)), some (.inl x1), some (.inl x2), some (.inl x3), wx4, wx5, wx6] [] M := by
  refine x_iconst 0 rfl (by decide) ?_
  exact k
theorem uX12_has_145 {d : Nat} {Q : Int → yM → Prop} {M : yM} {x1 : Int} {x2 : Int} {x3 : Int} {wx4 : Option yV} {wx5 : Option yV} {wx6 : Option yV} {s0 : Int} (h1 : s0 = 0 ∨ s0 = 1) (k : Q s0 M) : XW kX12_has d (some .boolean) (wQi Q) 145 [some (.inr (.inr 92)), some (.inl x1), some (.inl x2), some (.inl x3), wx4, wx5, wx6] [.inl s0] M := by
  exact x_zreturn rfl h1 k
theorem eX12_reason {d : Nat} {Q : Int → yM → Prop} {M : yM} {x1 : Int}  (h : XW kX12_reason d (some .int) (wQi Q) 0 [some (.inr (.inr 92)), some (.inl x1), none, none, none] [] M) : XCi d 161 [.inr (.inr 92), .inl x1] M Q :=
  XC.ofW (Mm := (yX12_reason, cX12_reason, 5, (some .int), 13, kX12_reason)) rfl (rcv_ok sh92) rfl rfl h
theorem uX12_reason_0 {d : Nat} {Q : Int → yM → Prop} {M : yM} {x1 : Int} (k : ∀ M', M' = (put M 92 0 0) → XW kX12_reason d (some .int) (wQi Q) 5 [some (.inr (.inr 92)), some (.inl x1), none, none, none] [] M') : XW kX12_reason d (some .int) (wQi Q) 0 [some (.inr (.inr 92)), some (.inl x1), none, none, none] [] M := by
  refine x_aload_n rfl rfl ?_
  refine x_iconst 0 rfl (by decide) ?_
  refine x_putI rfl rfl sh92 rfl ?_
  exact k _ rfl
theorem uX12_reason_5 {d : Nat} {Q : Int → yM → Prop} {M : yM} {x1 : Int} (k : XCi d 120 [.inl x1, .inl 0, .inl 1] M (fun v M' => XW kX12_reason (d + 1) (some .int) (wQi Q) 11 [some (.inr (.inr 92)), some (.inl x1), none, none, none] [.inl v] M')) : XW kX12_reason (d + 1) (some .int) (wQi Q) 5 [some (.inr (.inr 92)), some (.inl x1), none, none, none] [] M := by
  refine x_iload_n rfl rfl ?_
  refine x_iconst 0 rfl (by decide) ?_
  refine x_iconst 1 rfl (by decide) ?_
  exact x_calli (args := [.inl x1, .inl 0, .inl 1]) rfl rfl rfl k
theorem uX12_reason_11 {d : Nat} {Q : Int → yM → Prop} {M : yM} {x1 : Int} {s0 : Int} (h1 : -2147483648 ≤ s0 ∧ s0 < 2147483648) (kt : s0 ≠ 0 → XW kX12_reason d (some .int) (wQi Q) 16 [some (.inr (.inr 92)), some (.inl x1), none, none, none] [] M) (kf : s0 = 0 → XW kX12_reason d (some .int) (wQi Q) 14 [some (.inr (.inr 92)), some (.inl x1), none, none, none] [] M) : XW kX12_reason d (some .int) (wQi Q) 11 [some (.inr (.inr 92)), some (.inl x1), none, none, none] [.inl s0] M := by
  exact x_ifne rfl h1 kt kf
theorem uX12_reason_14 {d : Nat} {Q : Int → yM → Prop} {M : yM} {x1 : Int} (k : Q (-1) M) : XW kX12_reason d (some .int) (wQi Q) 14 [some (.inr (.inr 92)), some (.inl x1), none, none, none] [] M := by
  refine x_iconst (-1) rfl (by decide) ?_
  exact x_ireturn rfl k
theorem uX12_reason_16 {d : Nat} {Q : Int → yM → Prop} {M : yM} {x1 : Int} (k : XW kX12_reason d (some .int) (wQi Q) 20 [some (.inr (.inr 92)), some (.inl x1), some (.inl 0), some (.inl 0), none] [] M) : XW kX12_reason d (some .int) (wQi Q) 16 [some (.inr (.inr 92)), some (.inl x1), none, none, none] [] M := by
  refine x_iconst 0 rfl (by decide) ?_
  refine x_istore_n rfl (Nat.le_of_ble_eq_true rfl) rfl ?_
  refine x_iconst 0 rfl (by decide) ?_
  refine x_istore_n rfl (Nat.le_of_ble_eq_true rfl) rfl ?_
  exact k
theorem uX12_reason_20 {d : Nat} {Q : Int → yM → Prop} {M : yM} {x1 : Int} {x2 : Int} {x3 : Int} {wx4 : Option yV} (h1 : -2147483648 ≤ x3 ∧ x3 < 2147483648) (kt : x3 ≥ (ld M 92 11) → XW kX12_reason d (some .int) (wQi Q) 81 [some (.inr (.inr 92)), some (.inl x1), some (.inl x2), some (.inl x3), wx4] [] M) (kf : x3 < (ld M 92 11) → XW kX12_reason d (some .int) (wQi Q) 28 [some (.inr (.inr 92)), some (.inl x1), some (.inl x2), some (.inl x3), wx4] [] M) : XW kX12_reason d (some .int) (wQi Q) 20 [some (.inr (.inr 92)), some (.inl x1), some (.inl x2), some (.inl x3), wx4] [] M := by
  refine x_iload_n rfl rfl ?_
  refine x_aload_n rfl rfl ?_
  refine x_getI rfl sh92 rfl ?_
  exact x_icmpge rfl h1 (rng_ld _ _ _) kt kf
theorem uX12_reason_28 {d : Nat} {Q : Int → yM → Prop} {M : yM} {x1 : Int} {x2 : Int} {x3 : Int} {wx4 : Option yV} (k : XW kX12_reason d (some .int) (wQi Q) 33 [some (.inr (.inr 92)), some (.inl x1), some (.inl x2), some (.inl x3), some (.inl (x3 + 1))] [] M) : XW kX12_reason d (some .int) (wQi Q) 28 [some (.inr (.inr 92)), some (.inl x1), some (.inl x2), some (.inl x3), wx4] [] M := by
  refine x_iload_n rfl rfl ?_
  refine x_iconst 1 rfl (by decide) ?_
  refine x_iadd rfl ?_
  refine x_istore rfl (Nat.le_of_ble_eq_true rfl) rfl ?_
  exact k
theorem uX12_reason_33 {d : Nat} {Q : Int → yM → Prop} {M : yM} {x1 : Int} {x2 : Int} {x3 : Int} {x4 : Int} (h1 : -2147483648 ≤ x4 ∧ x4 < 2147483648) (kt : x4 ≥ (ld M 92 11) → XW kX12_reason d (some .int) (wQi Q) 75 [some (.inr (.inr 92)), some (.inl x1), some (.inl x2), some (.inl x3), some (.inl x4)] [] M) (kf : x4 < (ld M 92 11) → XW kX12_reason d (some .int) (wQi Q) 42 [some (.inr (.inr 92)), some (.inl x1), some (.inl x2), some (.inl x3), some (.inl x4)] [] M) : XW kX12_reason d (some .int) (wQi Q) 33 [some (.inr (.inr 92)), some (.inl x1), some (.inl x2), some (.inl x3), some (.inl x4)] [] M := by
  refine x_iload rfl rfl ?_
  refine x_aload_n rfl rfl ?_
  refine x_getI rfl sh92 rfl ?_
  exact x_icmpge rfl h1 (rng_ld _ _ _) kt kf
theorem uX12_reason_42 {d : Nat} {Q : Int → yM → Prop} {M : yM} {x1 : Int} {x2 : Int} {x3 : Int} {x4 : Int} (h1 : 0 ≤ ((8 * x3) + x4) ∧ ((8 * x3) + x4) < 2048) (k : XCi d 121 [.inr (.inr 92)] M (fun v M' => XW kX12_reason (d + 1) (some .int) (wQi Q) 59 [some (.inr (.inr 92)), some (.inl x1), some (.inl x2), some (.inl x3), some (.inl x4)] [.inl v, .inl (ld M 100 ((8 * x3) + x4)), .inl x2] M')) : XW kX12_reason (d + 1) (some .int) (wQi Q) 42 [some (.inr (.inr 92)), some (.inl x1), some (.inl x2), some (.inl x3), some (.inl x4)] [] M := by
  refine x_iload_n rfl rfl ?_
  refine x_aload_n rfl rfl ?_
  refine x_getR rfl sh92 rfl ?_
  refine x_bipush 8 rfl (by decide) ?_
  refine x_iload_n rfl rfl ?_
  refine x_imul rfl ?_
  refine x_iload rfl rfl ?_
  refine x_iadd rfl ?_
  refine x_iaload rfl ⟨sh100, Nat.le_of_ble_eq_true rfl⟩ h1 ?_
  refine x_aload_n rfl rfl ?_
  exact x_calli (args := [.inr (.inr 92)]) rfl rfl rfl k
theorem uX12_reason_59 {d : Nat} {Q : Int → yM → Prop} {M : yM} {x1 : Int} {x2 : Int} {x3 : Int} {x4 : Int} {s0 : Int} {s1 : Int} {s2 : Int} (h1 : -2147483648 ≤ s1 ∧ s1 < 2147483648) (h2 : -2147483648 ≤ s0 ∧ s0 < 2147483648) (kt : s1 = s0 → XW kX12_reason d (some .int) (wQi Q) 66 [some (.inr (.inr 92)), some (.inl x1), some (.inl x2), some (.inl x3), some (.inl x4)] [.inl s2] M) (kf : s1 ≠ s0 → XW kX12_reason d (some .int) (wQi Q) 62 [some (.inr (.inr 92)), some (.inl x1), some (.inl x2), some (.inl x3), some (.inl x4)] [.inl s2] M) : XW kX12_reason d (some .int) (wQi Q) 59 [some (.inr (.inr 92)), some (.inl x1), some (.inl x2), some (.inl x3), some (.inl x4)] [.inl s0, .inl s1, .inl s2] M := by
  exact x_icmpeq rfl h1 h2 kt kf
theorem uX12_reason_62 {d : Nat} {Q : Int → yM → Prop} {M : yM} {x1 : Int} {x2 : Int} {x3 : Int} {x4 : Int} {s0 : Int} (k : XW kX12_reason d (some .int) (wQi Q) 67 [some (.inr (.inr 92)), some (.inl x1), some (.inl x2), some (.inl x3), some (.inl x4)] [.inl 1, .inl s0] M) : XW kX12_reason d (some .int) (wQi Q) 62 [some (.inr (.inr 92)), some (.inl x1), some (.inl x2), some (.inl x3), some (.inl x4)] [.inl s0] M := by
  refine x_iconst 1 rfl (by decide) ?_
  exact x_goto rfl k
theorem uX12_reason_66 {d : Nat} {Q : Int → yM → Prop} {M : yM} {x1 : Int} {x2 : Int} {x3 : Int} {x4 : Int} {s0 : Int} (k : XW kX12_reason d (some .int) (wQi Q) 67 [some (.inr (.inr 92)), some (.inl x1), some (.inl x2), some (.inl x3), some (.inl x4)] [.inl 0, .inl s0] M) : XW kX12_reason d (some .int) (wQi Q) 66 [some (.inr (.inr 92)), some (.inl x1), some (.inl x2), some (.inl x3), some (.inl x4)] [.inl s0] M := by
  refine x_iconst 0 rfl (by decide) ?_
  exact k
theorem uX12_reason_67 {d : Nat} {Q : Int → yM → Prop} {M : yM} {x1 : Int} {x2 : Int} {x3 : Int} {x4 : Int} {s0 : Int} {s1 : Int} (k : XW kX12_reason d (some .int) (wQi Q) 33 [some (.inr (.inr 92)), some (.inl x1), some (.inl (s1 + s0)), some (.inl x3), some (.inl (x4 + 1))] [] M) : XW kX12_reason d (some .int) (wQi Q) 67 [some (.inr (.inr 92)), some (.inl x1), some (.inl x2), some (.inl x3), some (.inl x4)] [.inl s0, .inl s1] M := by
  refine x_iadd rfl ?_
  refine x_istore_n rfl (Nat.le_of_ble_eq_true rfl) rfl ?_
  refine x_iinc 1 rfl (by decide) rfl rfl ?_
  exact x_goto rfl k
theorem uX12_reason_75 {d : Nat} {Q : Int → yM → Prop} {M : yM} {x1 : Int} {x2 : Int} {x3 : Int} {x4 : Int} (k : XW kX12_reason d (some .int) (wQi Q) 20 [some (.inr (.inr 92)), some (.inl x1), some (.inl x2), some (.inl (x3 + 1)), some (.inl x4)] [] M) : XW kX12_reason d (some .int) (wQi Q) 75 [some (.inr (.inr 92)), some (.inl x1), some (.inl x2), some (.inl x3), some (.inl x4)] [] M := by
  refine x_iinc 1 rfl (by decide) rfl rfl ?_
  exact x_goto rfl k
theorem uX12_reason_81 {d : Nat} {Q : Int → yM → Prop} {M : yM} {x1 : Int} {x2 : Int} {x3 : Int} {wx4 : Option yV} (h1 : -2147483648 ≤ x2 ∧ x2 < 2147483648) (kt : x2 ≤ 10 → XW kX12_reason d (some .int) (wQi Q) 90 [some (.inr (.inr 92)), some (.inl x1), some (.inl x2), some (.inl x3), wx4] [] M) (kf : x2 > 10 → XW kX12_reason d (some .int) (wQi Q) 87 [some (.inr (.inr 92)), some (.inl x1), some (.inl x2), some (.inl x3), wx4] [] M) : XW kX12_reason d (some .int) (wQi Q) 81 [some (.inr (.inr 92)), some (.inl x1), some (.inl x2), some (.inl x3), wx4] [] M := by
  refine x_iload_n rfl rfl ?_
  refine x_bipush 10 rfl (by decide) ?_
  exact x_icmple rfl h1 (by decide) kt kf
theorem uX12_reason_87 {d : Nat} {Q : Int → yM → Prop} {M : yM} {x1 : Int} {x2 : Int} {x3 : Int} {wx4 : Option yV} (k : Q (-2) M) : XW kX12_reason d (some .int) (wQi Q) 87 [some (.inr (.inr 92)), some (.inl x1), some (.inl x2), some (.inl x3), wx4] [] M := by
  refine x_bipush (-2) rfl (by decide) ?_
  exact x_ireturn rfl k
theorem uX12_reason_90 {d : Nat} {Q : Int → yM → Prop} {M : yM} {x1 : Int} {x2 : Int} {x3 : Int} {wx4 : Option yV} (k : XCi d 160 [.inr (.inr 92), .inl ((yshl 1 x2) - 1)] M (fun v M' => XW kX12_reason (d + 1) (some .int) (wQi Q) 101 [some (.inr (.inr 92)), some (.inl x1), some (.inl x2), some (.inl ((yshl 1 x2) - 1)), wx4] [.inl v] M')) : XW kX12_reason (d + 1) (some .int) (wQi Q) 90 [some (.inr (.inr 92)), some (.inl x1), some (.inl x2), some (.inl x3), wx4] [] M := by
  refine x_iconst 1 rfl (by decide) ?_
  refine x_iload_n rfl rfl ?_
  refine x_ishl rfl ?_
  refine x_iconst 1 rfl (by decide) ?_
  refine x_isub rfl ?_
  refine x_istore_n rfl (Nat.le_of_ble_eq_true rfl) rfl ?_
  refine x_aload_n rfl rfl ?_
  refine x_iload_n rfl rfl ?_
  exact x_calli (args := [.inr (.inr 92), .inl ((yshl 1 x2) - 1)]) rfl rfl rfl k
theorem uX12_reason_101 {d : Nat} {Q : Int → yM → Prop} {M : yM} {x1 : Int} {x2 : Int} {x3 : Int} {wx4 : Option yV} {s0 : Int} (h1 : -2147483648 ≤ s0 ∧ s0 < 2147483648) (kt : s0 = 0 → XW kX12_reason d (some .int) (wQi Q) 107 [some (.inr (.inr 92)), some (.inl x1), some (.inl x2), some (.inl x3), wx4] [] M) (kf : s0 ≠ 0 → XW kX12_reason d (some .int) (wQi Q) 104 [some (.inr (.inr 92)), some (.inl x1), some (.inl x2), some (.inl x3), wx4] [] M) : XW kX12_reason d (some .int) (wQi Q) 101 [some (.inr (.inr 92)), some (.inl x1), some (.inl x2), some (.inl x3), wx4] [.inl s0] M := by
  exact x_ifeq rfl h1 kt kf
theorem uX12_reason_104 {d : Nat} {Q : Int → yM → Prop} {M : yM} {x1 : Int} {x2 : Int} {x3 : Int} {wx4 : Option yV} (k : Q (-9) M) : XW kX12_reason d (some .int) (wQi Q) 104 [some (.inr (.inr 92)), some (.inl x1), some (.inl x2), some (.inl x3), wx4] [] M := by
  refine x_bipush (-9) rfl (by decide) ?_
  exact x_ireturn rfl k
theorem uX12_reason_107 {d : Nat} {Q : Int → yM → Prop} {M : yM} {x1 : Int} {x2 : Int} {x3 : Int} {wx4 : Option yV} (k : XW kX12_reason d (some .int) (wQi Q) 110 [some (.inr (.inr 92)), some (.inl x1), some (.inl x2), some (.inl x3), some (.inl x3)] [] M) : XW kX12_reason d (some .int) (wQi Q) 107 [some (.inr (.inr 92)), some (.inl x1), some (.inl x2), some (.inl x3), wx4] [] M := by
  refine x_iload_n rfl rfl ?_
  refine x_istore rfl (Nat.le_of_ble_eq_true rfl) rfl ?_
  exact k
theorem uX12_reason_110 {d : Nat} {Q : Int → yM → Prop} {M : yM} {x1 : Int} {x2 : Int} {x3 : Int} {x4 : Int} (h1 : -2147483648 ≤ x4 ∧ x4 < 2147483648) (kt : x4 < 0 → XW kX12_reason d (some .int) (wQi Q) 149 [some (.inr (.inr 92)), some (.inl x1), some (.inl x2), some (.inl x3), some (.inl x4)] [] M) (kf : x4 ≥ 0 → XW kX12_reason d (some .int) (wQi Q) 115 [some (.inr (.inr 92)), some (.inl x1), some (.inl x2), some (.inl x3), some (.inl x4)] [] M) : XW kX12_reason d (some .int) (wQi Q) 110 [some (.inr (.inr 92)), some (.inl x1), some (.inl x2), some (.inl x3), some (.inl x4)] [] M := by
  refine x_iload rfl rfl ?_
  exact x_iflt rfl h1 kt kf
theorem uX12_reason_115 {d : Nat} {Q : Int → yM → Prop} {M : yM} {x1 : Int} {x2 : Int} {x3 : Int} {x4 : Int} (k : XCi d 159 [.inl x4] M (fun v M' => XW kX12_reason (d + 1) (some .int) (wQi Q) 120 [some (.inr (.inr 92)), some (.inl x1), some (.inl x2), some (.inl x3), some (.inl x4)] [.inl v] M')) : XW kX12_reason (d + 1) (some .int) (wQi Q) 115 [some (.inr (.inr 92)), some (.inl x1), some (.inl x2), some (.inl x3), some (.inl x4)] [] M := by
  refine x_iload rfl rfl ?_
  exact x_calli (args := [.inl x4]) rfl rfl rfl k
theorem uX12_reason_120 {d : Nat} {Q : Int → yM → Prop} {M : yM} {x1 : Int} {x2 : Int} {x3 : Int} {x4 : Int} {s0 : Int} (k : XCi d 159 [.inl x3] M (fun v M' => XW kX12_reason (d + 1) (some .int) (wQi Q) 124 [some (.inr (.inr 92)), some (.inl x1), some (.inl x2), some (.inl x3), some (.inl x4)] [.inl v, .inl s0] M')) : XW kX12_reason (d + 1) (some .int) (wQi Q) 120 [some (.inr (.inr 92)), some (.inl x1), some (.inl x2), some (.inl x3), some (.inl x4)] [.inl s0] M := by
  refine x_iload_n rfl rfl ?_
  exact x_calli (args := [.inl x3]) rfl rfl rfl k
theorem uX12_reason_124 {d : Nat} {Q : Int → yM → Prop} {M : yM} {x1 : Int} {x2 : Int} {x3 : Int} {x4 : Int} {s0 : Int} {s1 : Int} (h1 : -2147483648 ≤ s1 ∧ s1 < 2147483648) (h2 : -2147483648 ≤ s0 ∧ s0 < 2147483648) (kt : s1 > s0 → XW kX12_reason d (some .int) (wQi Q) 141 [some (.inr (.inr 92)), some (.inl x1), some (.inl x2), some (.inl x3), some (.inl x4)] [] M) (kf : s1 ≤ s0 → XW kX12_reason d (some .int) (wQi Q) 127 [some (.inr (.inr 92)), some (.inl x1), some (.inl x2), some (.inl x3), some (.inl x4)] [] M) : XW kX12_reason d (some .int) (wQi Q) 124 [some (.inr (.inr 92)), some (.inl x1), some (.inl x2), some (.inl x3), some (.inl x4)] [.inl s0, .inl s1] M := by
  exact x_icmpgt rfl h1 h2 kt kf
theorem uX12_reason_127 {d : Nat} {Q : Int → yM → Prop} {M : yM} {x1 : Int} {x2 : Int} {x3 : Int} {x4 : Int} (k : XCi d 160 [.inr (.inr 92), .inl x4] M (fun v M' => XW kX12_reason (d + 1) (some .int) (wQi Q) 133 [some (.inr (.inr 92)), some (.inl x1), some (.inl x2), some (.inl x3), some (.inl x4)] [.inl v] M')) : XW kX12_reason (d + 1) (some .int) (wQi Q) 127 [some (.inr (.inr 92)), some (.inl x1), some (.inl x2), some (.inl x3), some (.inl x4)] [] M := by
  refine x_aload_n rfl rfl ?_
  refine x_iload rfl rfl ?_
  exact x_calli (args := [.inr (.inr 92), .inl x4]) rfl rfl rfl k
theorem uX12_reason_133 {d : Nat} {Q : Int → yM → Prop} {M : yM} {x1 : Int} {x2 : Int} {x3 : Int} {x4 : Int} {s0 : Int} (h1 : -2147483648 ≤ s0 ∧ s0 < 2147483648) (kt : s0 ≠ 0 → XW kX12_reason d (some .int) (wQi Q) 141 [some (.inr (.inr 92)), some (.inl x1), some (.inl x2), some (.inl x3), some (.inl x4)] [] M) (kf : s0 = 0 → XW kX12_reason d (some .int) (wQi Q) 136 [some (.inr (.inr 92)), some (.inl x1), some (.inl x2), some (.inl x3), some (.inl x4)] [] M) : XW kX12_reason d (some .int) (wQi Q) 133 [some (.inr (.inr 92)), some (.inl x1), some (.inl x2), some (.inl x3), some (.inl x4)] [.inl s0] M := by
  exact x_ifne rfl h1 kt kf
theorem uX12_reason_136 {d : Nat} {Q : Int → yM → Prop} {M : yM} {x1 : Int} {x2 : Int} {x3 : Int} {x4 : Int} (k : XW kX12_reason d (some .int) (wQi Q) 142 [some (.inr (.inr 92)), some (.inl x1), some (.inl x2), some (.inl x3), some (.inl x4)] [.inl x4] M) : XW kX12_reason d (some .int) (wQi Q) 136 [some (.inr (.inr 92)), some (.inl x1), some (.inl x2), some (.inl x3), some (.inl x4)] [] M := by
  refine x_iload rfl rfl ?_
  exact x_goto rfl k
theorem uX12_reason_141 {d : Nat} {Q : Int → yM → Prop} {M : yM} {x1 : Int} {x2 : Int} {x3 : Int} {x4 : Int} (k : XW kX12_reason d (some .int) (wQi Q) 142 [some (.inr (.inr 92)), some (.inl x1), some (.inl x2), some (.inl x3), some (.inl x4)] [.inl x3] M) : XW kX12_reason d (some .int) (wQi Q) 141 [some (.inr (.inr 92)), some (.inl x1), some (.inl x2), some (.inl x3), some (.inl x4)] [] M := by
  refine x_iload_n rfl rfl ?_
  exact k
theorem uX12_reason_142 {d : Nat} {Q : Int → yM → Prop} {M : yM} {x1 : Int} {x2 : Int} {x3 : Int} {x4 : Int} {s0 : Int} (k : XW kX12_reason d (some .int) (wQi Q) 110 [some (.inr (.inr 92)), some (.inl x1), some (.inl x2), some (.inl s0), some (.inl (x4 + (-1)))] [] M) : XW kX12_reason d (some .int) (wQi Q) 142 [some (.inr (.inr 92)), some (.inl x1), some (.inl x2), some (.inl x3), some (.inl x4)] [.inl s0] M := by
  refine x_istore_n rfl (Nat.le_of_ble_eq_true rfl) rfl ?_
  refine x_iinc (-1) rfl (by decide) rfl rfl ?_
  exact x_goto rfl k
theorem uX12_reason_149 {d : Nat} {Q : Int → yM → Prop} {M : yM} {x1 : Int} {x2 : Int} {x3 : Int} {x4 : Int} (h1 : -2147483648 ≤ x1 ∧ x1 < 2147483648) (kt : x1 ≠ 0 → XW kX12_reason d (some .int) (wQi Q) 160 [some (.inr (.inr 92)), some (.inl x1), some (.inl x2), some (.inl x3), some (.inl x4)] [] M) (kf : x1 = 0 → XW kX12_reason d (some .int) (wQi Q) 153 [some (.inr (.inr 92)), some (.inl x1), some (.inl x2), some (.inl x3), some (.inl x4)] [] M) : XW kX12_reason d (some .int) (wQi Q) 149 [some (.inr (.inr 92)), some (.inl x1), some (.inl x2), some (.inl x3), some (.inl x4)] [] M := by
  refine x_iload_n rfl rfl ?_
  exact x_ifne rfl h1 kt kf
theorem uX12_reason_153 {d : Nat} {Q : Int → yM → Prop} {M : yM} {x1 : Int} {x2 : Int} {x3 : Int} {x4 : Int} (k : XCi d 159 [.inl x3] M (fun v M' => XW kX12_reason (d + 1) (some .int) (wQi Q) 157 [some (.inr (.inr 92)), some (.inl x1), some (.inl x2), some (.inl x3), some (.inl x4)] [.inl v] M')) : XW kX12_reason (d + 1) (some .int) (wQi Q) 153 [some (.inr (.inr 92)), some (.inl x1), some (.inl x2), some (.inl x3), some (.inl x4)] [] M := by
  refine x_iload_n rfl rfl ?_
  exact x_calli (args := [.inl x3]) rfl rfl rfl k
theorem uX12_reason_157 {d : Nat} {Q : Int → yM → Prop} {M : yM} {x1 : Int} {x2 : Int} {x3 : Int} {x4 : Int} {s0 : Int} (k : XW kX12_reason d (some .int) (wQi Q) 161 [some (.inr (.inr 92)), some (.inl x1), some (.inl x2), some (.inl x3), some (.inl x4)] [.inl s0] M) : XW kX12_reason d (some .int) (wQi Q) 157 [some (.inr (.inr 92)), some (.inl x1), some (.inl x2), some (.inl x3), some (.inl x4)] [.inl s0] M := by
  exact x_goto rfl k
theorem uX12_reason_160 {d : Nat} {Q : Int → yM → Prop} {M : yM} {x1 : Int} {x2 : Int} {x3 : Int} {x4 : Int} (k : XW kX12_reason d (some .int) (wQi Q) 161 [some (.inr (.inr 92)), some (.inl x1), some (.inl x2), some (.inl x3), some (.inl x4)] [.inl x3] M) : XW kX12_reason d (some .int) (wQi Q) 160 [some (.inr (.inr 92)), some (.inl x1), some (.inl x2), some (.inl x3), some (.inl x4)] [] M := by
  refine x_iload_n rfl rfl ?_
  exact k
theorem uX12_reason_161 {d : Nat} {Q : Int → yM → Prop} {M : yM} {x1 : Int} {x2 : Int} {x3 : Int} {x4 : Int} {s0 : Int} (k : Q s0 M) : XW kX12_reason d (some .int) (wQi Q) 161 [some (.inr (.inr 92)), some (.inl x1), some (.inl x2), some (.inl x3), some (.inl x4)] [.inl s0] M := by
  exact x_ireturn rfl k
theorem eX12_type {d : Nat} {Q : Int → yM → Prop} {M : yM} {x1 : Int} {x3 : Int}  (h : XW kX12_type d (some .int) (wQi Q) 0 [some (.inr (.inr 92)), some (.inr (.inl x1)), none, some (.inl x3), none] [] M) : XCi d 162 [.inr (.inr 92), .inr (.inl x1), .inl x3] M Q :=
  XC.ofW (Mm := (yX12_type, cX12_type, 5, (some .int), 13, kX12_type)) rfl (rcv_ok sh92) rfl rfl h
theorem uX12_type_0 {d : Nat} {Q : Int → yM → Prop} {M : yM} {x1 : Int} {x3 : Int} (k : ∀ M', M' = (put M 92 0 0) → XW kX12_type d (some .int) (wQi Q) 5 [some (.inr (.inr 92)), some (.inr (.inl x1)), none, some (.inl x3), none] [] M') : XW kX12_type d (some .int) (wQi Q) 0 [some (.inr (.inr 92)), some (.inr (.inl x1)), none, some (.inl x3), none] [] M := by
  refine x_aload_n rfl rfl ?_
  refine x_iconst 0 rfl (by decide) ?_
  refine x_putI rfl rfl sh92 rfl ?_
  exact k _ rfl
theorem uX12_type_5 {d : Nat} {Q : Int → yM → Prop} {M : yM} {x1 : Int} {x3 : Int} (k : XCi d 120 [.inl x3, .inl 1, .inl 8] M (fun v M' => XW kX12_type (d + 1) (some .int) (wQi Q) 12 [some (.inr (.inr 92)), some (.inr (.inl x1)), none, some (.inl x3), none] [.inl v] M')) : XW kX12_type (d + 1) (some .int) (wQi Q) 5 [some (.inr (.inr 92)), some (.inr (.inl x1)), none, some (.inl x3), none] [] M := by
  refine x_iload_n rfl rfl ?_
  refine x_iconst 1 rfl (by decide) ?_
  refine x_bipush 8 rfl (by decide) ?_
  exact x_calli (args := [.inl x3, .inl 1, .inl 8]) rfl rfl rfl k
theorem uX12_type_12 {d : Nat} {Q : Int → yM → Prop} {M : yM} {x1 : Int} {x3 : Int} {s0 : Int} (h1 : -2147483648 ≤ s0 ∧ s0 < 2147483648) (kt : s0 ≠ 0 → XW kX12_type d (some .int) (wQi Q) 17 [some (.inr (.inr 92)), some (.inr (.inl x1)), none, some (.inl x3), none] [] M) (kf : s0 = 0 → XW kX12_type d (some .int) (wQi Q) 15 [some (.inr (.inr 92)), some (.inr (.inl x1)), none, some (.inl x3), none] [] M) : XW kX12_type d (some .int) (wQi Q) 12 [some (.inr (.inr 92)), some (.inr (.inl x1)), none, some (.inl x3), none] [.inl s0] M := by
  exact x_ifne rfl h1 kt kf
theorem uX12_type_15 {d : Nat} {Q : Int → yM → Prop} {M : yM} {x1 : Int} {x3 : Int} (k : Q (-1) M) : XW kX12_type d (some .int) (wQi Q) 15 [some (.inr (.inr 92)), some (.inr (.inl x1)), none, some (.inl x3), none] [] M := by
  refine x_iconst (-1) rfl (by decide) ?_
  exact x_ireturn rfl k
theorem uX12_type_17 {d : Nat} {Q : Int → yM → Prop} {M : yM} {x1 : Int} {x3 : Int} (h1 : -2147483648 ≤ ((ld M 92 21) + x3) ∧ ((ld M 92 21) + x3) < 2147483648) (kt : ((ld M 92 21) + x3) ≤ 60 → XW kX12_type d (some .int) (wQi Q) 31 [some (.inr (.inr 92)), some (.inr (.inl x1)), none, some (.inl x3), none] [] M) (kf : ((ld M 92 21) + x3) > 60 → XW kX12_type d (some .int) (wQi Q) 28 [some (.inr (.inr 92)), some (.inr (.inl x1)), none, some (.inl x3), none] [] M) : XW kX12_type d (some .int) (wQi Q) 17 [some (.inr (.inr 92)), some (.inr (.inl x1)), none, some (.inl x3), none] [] M := by
  refine x_aload_n rfl rfl ?_
  refine x_getI rfl sh92 rfl ?_
  refine x_iload_n rfl rfl ?_
  refine x_iadd rfl ?_
  refine x_bipush 60 rfl (by decide) ?_
  exact x_icmple rfl h1 (by decide) kt kf
theorem uX12_type_28 {d : Nat} {Q : Int → yM → Prop} {M : yM} {x1 : Int} {x3 : Int} (k : Q (-3) M) : XW kX12_type d (some .int) (wQi Q) 28 [some (.inr (.inr 92)), some (.inr (.inl x1)), none, some (.inl x3), none] [] M := by
  refine x_bipush (-3) rfl (by decide) ?_
  exact x_ireturn rfl k
theorem uX12_type_31 {d : Nat} {Q : Int → yM → Prop} {M : yM} {x1 : Int} {x3 : Int} (k : XW kX12_type d (some .int) (wQi Q) 36 [some (.inr (.inr 92)), some (.inr (.inl x1)), none, some (.inl x3), some (.inl (x3 - 1))] [] M) : XW kX12_type d (some .int) (wQi Q) 31 [some (.inr (.inr 92)), some (.inr (.inl x1)), none, some (.inl x3), none] [] M := by
  refine x_iload_n rfl rfl ?_
  refine x_iconst 1 rfl (by decide) ?_
  refine x_isub rfl ?_
  refine x_istore rfl (Nat.le_of_ble_eq_true rfl) rfl ?_
  exact k
theorem uX12_type_36 {d : Nat} {Q : Int → yM → Prop} {M : yM} {x1 : Int} {x3 : Int} {x4 : Int} (h1 : -2147483648 ≤ x4 ∧ x4 < 2147483648) (kt : x4 < 0 → XW kX12_type d (some .int) (wQi Q) 78 [some (.inr (.inr 92)), some (.inr (.inl x1)), none, some (.inl x3), some (.inl x4)] [] M) (kf : x4 ≥ 0 → XW kX12_type d (some .int) (wQi Q) 41 [some (.inr (.inr 92)), some (.inr (.inl x1)), none, some (.inl x3), some (.inl x4)] [] M) : XW kX12_type d (some .int) (wQi Q) 36 [some (.inr (.inr 92)), some (.inr (.inl x1)), none, some (.inl x3), some (.inl x4)] [] M := by
  refine x_iload rfl rfl ?_
  exact x_iflt rfl h1 kt kf
theorem uX12_type_41 {d : Nat} {Q : Int → yM → Prop} {M : yM} {x1 : Int} {x3 : Int} {x4 : Int} (h1 : 0 ≤ (ld M 92 21) ∧ (ld M 92 21) < 60) (k : ∀ M', M' = (put M 106 (ld M 92 21) (zand (zshr x1 (8 * x4)) 255)) → XW kX12_type d (some .int) (wQi Q) 62 [some (.inr (.inr 92)), some (.inr (.inl x1)), none, some (.inl x3), some (.inl x4)] [] M') : XW kX12_type d (some .int) (wQi Q) 41 [some (.inr (.inr 92)), some (.inr (.inl x1)), none, some (.inl x3), some (.inl x4)] [] M := by
  refine x_aload_n rfl rfl ?_
  refine x_getR rfl sh92 rfl ?_
  refine x_aload_n rfl rfl ?_
  refine x_getI rfl sh92 rfl ?_
  refine x_lload_n rfl rfl ?_
  refine x_bipush 8 rfl (by decide) ?_
  refine x_iload rfl rfl ?_
  refine x_imul rfl ?_
  refine x_lshr rfl ?_
  refine x_ldc2_w 255 rfl (by decide) ?_
  refine x_land rfl ?_
  refine x_l2i rfl ?_
  refine x_iastore rfl ⟨sh106, Nat.le_of_ble_eq_true rfl⟩ h1  ?_
  exact k _ rfl
theorem uX12_type_62 {d : Nat} {Q : Int → yM → Prop} {M : yM} {x1 : Int} {x3 : Int} {x4 : Int} (k : ∀ M', M' = (put M 92 21 ((ld M 92 21) + 1)) → XW kX12_type d (some .int) (wQi Q) 72 [some (.inr (.inr 92)), some (.inr (.inl x1)), none, some (.inl x3), some (.inl x4)] [] M') : XW kX12_type d (some .int) (wQi Q) 62 [some (.inr (.inr 92)), some (.inr (.inl x1)), none, some (.inl x3), some (.inl x4)] [] M := by
  refine x_aload_n rfl rfl ?_
  refine x_dupa rfl ?_
  refine x_getI rfl sh92 rfl ?_
  refine x_iconst 1 rfl (by decide) ?_
  refine x_iadd rfl ?_
  refine x_putI rfl rfl sh92 rfl ?_
  exact k _ rfl
theorem uX12_type_72 {d : Nat} {Q : Int → yM → Prop} {M : yM} {x1 : Int} {x3 : Int} {x4 : Int} (k : XW kX12_type d (some .int) (wQi Q) 36 [some (.inr (.inr 92)), some (.inr (.inl x1)), none, some (.inl x3), some (.inl (x4 + (-1)))] [] M) : XW kX12_type d (some .int) (wQi Q) 72 [some (.inr (.inr 92)), some (.inr (.inl x1)), none, some (.inl x3), some (.inl x4)] [] M := by
  refine x_iinc (-1) rfl (by decide) rfl rfl ?_
  exact x_goto rfl k
theorem uX12_type_78 {d : Nat} {Q : Int → yM → Prop} {M : yM} {x1 : Int} {x3 : Int} {x4 : Int} (k : Q (ld M 92 21) M) : XW kX12_type d (some .int) (wQi Q) 78 [some (.inr (.inr 92)), some (.inr (.inl x1)), none, some (.inl x3), some (.inl x4)] [] M := by
  refine x_aload_n rfl rfl ?_
  refine x_getI rfl sh92 rfl ?_
  exact x_ireturn rfl k
theorem eX12_clear {d : Nat} {Q : Int → yM → Prop} {M : yM}   (h : XW kX12_clear d (some .int) (wQi Q) 0 [some (.inr (.inr 92)), none] [] M) : XCi d 163 [.inr (.inr 92)] M Q :=
  XC.ofW (Mm := (yX12_clear, cX12_clear, 2, (some .int), 13, kX12_clear)) rfl (rcv_ok sh92) rfl rfl h
theorem uX12_clear_0 {d : Nat} {Q : Int → yM → Prop} {M : yM}  (k : ∀ M', M' = (put M 92 0 0) → XW kX12_clear d (some .int) (wQi Q) 5 [some (.inr (.inr 92)), none] [] M') : XW kX12_clear d (some .int) (wQi Q) 0 [some (.inr (.inr 92)), none] [] M := by
  refine x_aload_n rfl rfl ?_
  refine x_iconst 0 rfl (by decide) ?_
  refine x_putI rfl rfl sh92 rfl ?_
  exact k _ rfl
theorem uX12_clear_5 {d : Nat} {Q : Int → yM → Prop} {M : yM}  (k : ∀ M', M' = (put M 92 21 0) → XW kX12_clear d (some .int) (wQi Q) 15 [some (.inr (.inr 92)), some (.inl (ld M 92 21))] [] M') : XW kX12_clear d (some .int) (wQi Q) 5 [some (.inr (.inr 92)), none] [] M := by
  refine x_aload_n rfl rfl ?_
  refine x_getI rfl sh92 rfl ?_
  refine x_istore_n rfl (Nat.le_of_ble_eq_true rfl) rfl ?_
  refine x_aload_n rfl rfl ?_
  refine x_iconst 0 rfl (by decide) ?_
  refine x_putI rfl rfl sh92 rfl ?_
  exact k _ rfl
theorem uX12_clear_15 {d : Nat} {Q : Int → yM → Prop} {M : yM} {x1 : Int} (k : Q x1 M) : XW kX12_clear d (some .int) (wQi Q) 15 [some (.inr (.inr 92)), some (.inl x1)] [] M := by
  refine x_iload_n rfl rfl ?_
  exact x_ireturn rfl k
theorem eX12_isLeaf {d : Nat} {Q : Int → yM → Prop} {M : yM} {x1 : Int}  (h : XW kX12_isLeaf d (some .boolean) (wQi Q) 0 [some (.inr (.inr 92)), some (.inl x1)] [] M) : XCi d 164 [.inr (.inr 92), .inl x1] M Q :=
  XC.ofW (Mm := (yX12_isLeaf, cX12_isLeaf, 2, (some .boolean), 13, kX12_isLeaf)) rfl (rcv_ok sh92) rfl rfl h
theorem uX12_isLeaf_0 {d : Nat} {Q : Int → yM → Prop} {M : yM} {x1 : Int} (k : XCi d 120 [.inl x1, .inl 97, .inl ((97 + (ld M 92 2)) - 1)] M (fun v M' => XW kX12_isLeaf (d + 1) (some .boolean) (wQi Q) 15 [some (.inr (.inr 92)), some (.inl x1)] [.inl v] M')) : XW kX12_isLeaf (d + 1) (some .boolean) (wQi Q) 0 [some (.inr (.inr 92)), some (.inl x1)] [] M := by
  refine x_iload_n rfl rfl ?_
  refine x_bipush 97 rfl (by decide) ?_
  refine x_bipush 97 rfl (by decide) ?_
  refine x_aload_n rfl rfl ?_
  refine x_getI rfl sh92 rfl ?_
  refine x_iadd rfl ?_
  refine x_iconst 1 rfl (by decide) ?_
  refine x_isub rfl ?_
  exact x_calli (args := [.inl x1, .inl 97, .inl ((97 + (ld M 92 2)) - 1)]) rfl rfl rfl k
theorem uX12_isLeaf_15 {d : Nat} {Q : Int → yM → Prop} {M : yM} {x1 : Int} {s0 : Int} (h1 : -2147483648 ≤ s0 ∧ s0 < 2147483648) (kt : s0 ≠ 0 → XW kX12_isLeaf d (some .boolean) (wQi Q) 41 [some (.inr (.inr 92)), some (.inl x1)] [] M) (kf : s0 = 0 → XW kX12_isLeaf d (some .boolean) (wQi Q) 18 [some (.inr (.inr 92)), some (.inl x1)] [] M) : XW kX12_isLeaf d (some .boolean) (wQi Q) 15 [some (.inr (.inr 92)), some (.inl x1)] [.inl s0] M := by
  exact x_ifne rfl h1 kt kf
theorem uX12_isLeaf_18 {d : Nat} {Q : Int → yM → Prop} {M : yM} {x1 : Int} (h1 : -2147483648 ≤ x1 ∧ x1 < 2147483648) (kt : x1 = 49 → XW kX12_isLeaf d (some .boolean) (wQi Q) 41 [some (.inr (.inr 92)), some (.inl x1)] [] M) (kf : x1 ≠ 49 → XW kX12_isLeaf d (some .boolean) (wQi Q) 24 [some (.inr (.inr 92)), some (.inl x1)] [] M) : XW kX12_isLeaf d (some .boolean) (wQi Q) 18 [some (.inr (.inr 92)), some (.inl x1)] [] M := by
  refine x_iload_n rfl rfl ?_
  refine x_bipush 49 rfl (by decide) ?_
  exact x_icmpeq rfl h1 (by decide) kt kf
theorem uX12_isLeaf_24 {d : Nat} {Q : Int → yM → Prop} {M : yM} {x1 : Int} (h1 : -2147483648 ≤ x1 ∧ x1 < 2147483648) (kt : x1 = 48 → XW kX12_isLeaf d (some .boolean) (wQi Q) 41 [some (.inr (.inr 92)), some (.inl x1)] [] M) (kf : x1 ≠ 48 → XW kX12_isLeaf d (some .boolean) (wQi Q) 30 [some (.inr (.inr 92)), some (.inl x1)] [] M) : XW kX12_isLeaf d (some .boolean) (wQi Q) 24 [some (.inr (.inr 92)), some (.inl x1)] [] M := by
  refine x_iload_n rfl rfl ?_
  refine x_bipush 48 rfl (by decide) ?_
  exact x_icmpeq rfl h1 (by decide) kt kf
theorem uX12_isLeaf_30 {d : Nat} {Q : Int → yM → Prop} {M : yM} {x1 : Int} (k : XCi d 120 [.inl x1, .inl 120, .inl 122] M (fun v M' => XW kX12_isLeaf (d + 1) (some .boolean) (wQi Q) 38 [some (.inr (.inr 92)), some (.inl x1)] [.inl v] M')) : XW kX12_isLeaf (d + 1) (some .boolean) (wQi Q) 30 [some (.inr (.inr 92)), some (.inl x1)] [] M := by
  refine x_iload_n rfl rfl ?_
  refine x_bipush 120 rfl (by decide) ?_
  refine x_bipush 122 rfl (by decide) ?_
  exact x_calli (args := [.inl x1, .inl 120, .inl 122]) rfl rfl rfl k
theorem uX12_isLeaf_38 {d : Nat} {Q : Int → yM → Prop} {M : yM} {x1 : Int} {s0 : Int} (h1 : -2147483648 ≤ s0 ∧ s0 < 2147483648) (kt : s0 = 0 → XW kX12_isLeaf d (some .boolean) (wQi Q) 45 [some (.inr (.inr 92)), some (.inl x1)] [] M) (kf : s0 ≠ 0 → XW kX12_isLeaf d (some .boolean) (wQi Q) 41 [some (.inr (.inr 92)), some (.inl x1)] [] M) : XW kX12_isLeaf d (some .boolean) (wQi Q) 38 [some (.inr (.inr 92)), some (.inl x1)] [.inl s0] M := by
  exact x_ifeq rfl h1 kt kf
theorem uX12_isLeaf_41 {d : Nat} {Q : Int → yM → Prop} {M : yM} {x1 : Int} (k : XW kX12_isLeaf d (some .boolean) (wQi Q) 46 [some (.inr (.inr 92)), some (.inl x1)] [.inl 1] M) : XW kX12_isLeaf d (some .boolean) (wQi Q) 41 [some (.inr (.inr 92)), some (.inl x1)] [] M := by
  refine x_iconst 1 rfl (by decide) ?_
  exact x_goto rfl k
theorem uX12_isLeaf_45 {d : Nat} {Q : Int → yM → Prop} {M : yM} {x1 : Int} (k : XW kX12_isLeaf d (some .boolean) (wQi Q) 46 [some (.inr (.inr 92)), some (.inl x1)] [.inl 0] M) : XW kX12_isLeaf d (some .boolean) (wQi Q) 45 [some (.inr (.inr 92)), some (.inl x1)] [] M := by
  refine x_iconst 0 rfl (by decide) ?_
  exact k
theorem uX12_isLeaf_46 {d : Nat} {Q : Int → yM → Prop} {M : yM} {x1 : Int} {s0 : Int} (h1 : s0 = 0 ∨ s0 = 1) (k : Q s0 M) : XW kX12_isLeaf d (some .boolean) (wQi Q) 46 [some (.inr (.inr 92)), some (.inl x1)] [.inl s0] M := by
  exact x_zreturn rfl h1 k
theorem eX12_close {d : Nat} {Q : Int → yM → Prop} {M : yM} {x0 : Int}  (h : XW kX12_close d (some .int) (wQi Q) 0 [some (.inl x0)] [] M) : XCi d 165 [.inl x0] M Q :=
  XC.ofW (Mm := (yX12_close, cX12_close, 1, (some .int), 0, kX12_close)) rfl rfl rfl rfl h
theorem uX12_close_0 {d : Nat} {Q : Int → yM → Prop} {M : yM} {x0 : Int} (h1 : -2147483648 ≤ x0 ∧ x0 < 2147483648) (kt : x0 ≠ 43 → XW kX12_close d (some .int) (wQi Q) 10 [some (.inl x0)] [] M) (kf : x0 = 43 → XW kX12_close d (some .int) (wQi Q) 6 [some (.inl x0)] [] M) : XW kX12_close d (some .int) (wQi Q) 0 [some (.inl x0)] [] M := by
  refine x_iload_n rfl rfl ?_
  refine x_bipush 43 rfl (by decide) ?_
  exact x_icmpne rfl h1 (by decide) kt kf
theorem uX12_close_6 {d : Nat} {Q : Int → yM → Prop} {M : yM} {x0 : Int} (k : XW kX12_close d (some .int) (wQi Q) 31 [some (.inl x0)] [.inl 1] M) : XW kX12_close d (some .int) (wQi Q) 6 [some (.inl x0)] [] M := by
  refine x_iconst 1 rfl (by decide) ?_
  exact x_goto rfl k
theorem uX12_close_10 {d : Nat} {Q : Int → yM → Prop} {M : yM} {x0 : Int} (h1 : -2147483648 ≤ x0 ∧ x0 < 2147483648) (kt : x0 ≠ 38 → XW kX12_close d (some .int) (wQi Q) 20 [some (.inl x0)] [] M) (kf : x0 = 38 → XW kX12_close d (some .int) (wQi Q) 16 [some (.inl x0)] [] M) : XW kX12_close d (some .int) (wQi Q) 10 [some (.inl x0)] [] M := by
  refine x_iload_n rfl rfl ?_
  refine x_bipush 38 rfl (by decide) ?_
  exact x_icmpne rfl h1 (by decide) kt kf
theorem uX12_close_16 {d : Nat} {Q : Int → yM → Prop} {M : yM} {x0 : Int} (k : XW kX12_close d (some .int) (wQi Q) 31 [some (.inl x0)] [.inl 2] M) : XW kX12_close d (some .int) (wQi Q) 16 [some (.inl x0)] [] M := by
  refine x_iconst 2 rfl (by decide) ?_
  exact x_goto rfl k
theorem uX12_close_20 {d : Nat} {Q : Int → yM → Prop} {M : yM} {x0 : Int} (h1 : -2147483648 ≤ x0 ∧ x0 < 2147483648) (kt : x0 ≠ 59 → XW kX12_close d (some .int) (wQi Q) 30 [some (.inl x0)] [] M) (kf : x0 = 59 → XW kX12_close d (some .int) (wQi Q) 26 [some (.inl x0)] [] M) : XW kX12_close d (some .int) (wQi Q) 20 [some (.inl x0)] [] M := by
  refine x_iload_n rfl rfl ?_
  refine x_bipush 59 rfl (by decide) ?_
  exact x_icmpne rfl h1 (by decide) kt kf
theorem uX12_close_26 {d : Nat} {Q : Int → yM → Prop} {M : yM} {x0 : Int} (k : XW kX12_close d (some .int) (wQi Q) 31 [some (.inl x0)] [.inl 3] M) : XW kX12_close d (some .int) (wQi Q) 26 [some (.inl x0)] [] M := by
  refine x_iconst 3 rfl (by decide) ?_
  exact x_goto rfl k
theorem uX12_close_30 {d : Nat} {Q : Int → yM → Prop} {M : yM} {x0 : Int} (k : XW kX12_close d (some .int) (wQi Q) 31 [some (.inl x0)] [.inl 0] M) : XW kX12_close d (some .int) (wQi Q) 30 [some (.inl x0)] [] M := by
  refine x_iconst 0 rfl (by decide) ?_
  exact k
theorem uX12_close_31 {d : Nat} {Q : Int → yM → Prop} {M : yM} {x0 : Int} {s0 : Int} (k : Q s0 M) : XW kX12_close d (some .int) (wQi Q) 31 [some (.inl x0)] [.inl s0] M := by
  exact x_ireturn rfl k
theorem eX12_puts_ {d : Nat} {Q : yM → Prop} {M : yM} {x1 : Int}  (h : XW kX12_puts_ d none (wQv Q) 0 [some (.inr (.inr 92)), some (.inl x1)] [] M) : XCv d 166 [.inr (.inr 92), .inl x1] M Q :=
  XC.ofW (Mm := (yX12_puts_, cX12_puts_, 2, none, 13, kX12_puts_)) rfl (rcv_ok sh92) rfl rfl h
theorem uX12_puts__0 {d : Nat} {Q : yM → Prop} {M : yM} {x1 : Int} (h1 : 0 ≤ (ld M 92 25) ∧ (ld M 92 25) < 60) (k : ∀ M', M' = (put M 109 (ld M 92 25) x1) → XW kX12_puts_ d none (wQv Q) 10 [some (.inr (.inr 92)), some (.inl x1)] [] M') : XW kX12_puts_ d none (wQv Q) 0 [some (.inr (.inr 92)), some (.inl x1)] [] M := by
  refine x_aload_n rfl rfl ?_
  refine x_getR rfl sh92 rfl ?_
  refine x_aload_n rfl rfl ?_
  refine x_getI rfl sh92 rfl ?_
  refine x_iload_n rfl rfl ?_
  refine x_iastore rfl ⟨sh109, Nat.le_of_ble_eq_true rfl⟩ h1  ?_
  exact k _ rfl
theorem uX12_puts__10 {d : Nat} {Q : yM → Prop} {M : yM} {x1 : Int} (k : ∀ M', M' = (put M 92 25 ((ld M 92 25) + 1)) → XW kX12_puts_ d none (wQv Q) 20 [some (.inr (.inr 92)), some (.inl x1)] [] M') : XW kX12_puts_ d none (wQv Q) 10 [some (.inr (.inr 92)), some (.inl x1)] [] M := by
  refine x_aload_n rfl rfl ?_
  refine x_dupa rfl ?_
  refine x_getI rfl sh92 rfl ?_
  refine x_iconst 1 rfl (by decide) ?_
  refine x_iadd rfl ?_
  refine x_putI rfl rfl sh92 rfl ?_
  exact k _ rfl
theorem uX12_puts__20 {d : Nat} {Q : yM → Prop} {M : yM} {x1 : Int} (k : Q M) : XW kX12_puts_ d none (wQv Q) 20 [some (.inr (.inr 92)), some (.inl x1)] [] M := by
  exact x_return rfl k
theorem eX12_reads {d : Nat} {Q : Int → yM → Prop} {M : yM}   (h : XW kX12_reads d (some .boolean) (wQi Q) 0 [some (.inr (.inr 92)), none, none, none, none, none, none, none] [] M) : XCi d 167 [.inr (.inr 92)] M Q :=
  XC.ofW (Mm := (yX12_reads, cX12_reads, 8, (some .boolean), 13, kX12_reads)) rfl (rcv_ok sh92) rfl rfl h
theorem uX12_reads_0 {d : Nat} {Q : Int → yM → Prop} {M : yM}  (k : ∀ M', M' = (put M 92 25 0) → XW kX12_reads d (some .boolean) (wQi Q) 5 [some (.inr (.inr 92)), none, none, none, none, none, none, none] [] M') : XW kX12_reads d (some .boolean) (wQi Q) 0 [some (.inr (.inr 92)), none, none, none, none, none, none, none] [] M := by
  refine x_aload_n rfl rfl ?_
  refine x_iconst 0 rfl (by decide) ?_
  refine x_putI rfl rfl sh92 rfl ?_
  exact k _ rfl
theorem uX12_reads_5 {d : Nat} {Q : Int → yM → Prop} {M : yM}  (k : XW kX12_reads d (some .boolean) (wQi Q) 17 [some (.inr (.inr 92)), some (.inl 0), some (.inl 0), some (.inl 0), some (.inl 1), some (.inl 0), none, none] [] M) : XW kX12_reads d (some .boolean) (wQi Q) 5 [some (.inr (.inr 92)), none, none, none, none, none, none, none] [] M := by
  refine x_iconst 0 rfl (by decide) ?_
  refine x_istore_n rfl (Nat.le_of_ble_eq_true rfl) rfl ?_
  refine x_iconst 0 rfl (by decide) ?_
  refine x_istore_n rfl (Nat.le_of_ble_eq_true rfl) rfl ?_
  refine x_iconst 0 rfl (by decide) ?_
  refine x_istore_n rfl (Nat.le_of_ble_eq_true rfl) rfl ?_
  refine x_iconst 1 rfl (by decide) ?_
  refine x_istore rfl (Nat.le_of_ble_eq_true rfl) rfl ?_
  refine x_iconst 0 rfl (by decide) ?_
  refine x_istore rfl (Nat.le_of_ble_eq_true rfl) rfl ?_
  exact k
theorem uX12_reads_17 {d : Nat} {Q : Int → yM → Prop} {M : yM} {x1 : Int} {x2 : Int} {x3 : Int} {x4 : Int} {x5 : Int} {wx6 : Option yV} {wx7 : Option yV} (h1 : -2147483648 ≤ x5 ∧ x5 < 2147483648) (kt : x5 ≥ (ld M 92 21) → XW kX12_reads d (some .boolean) (wQi Q) 360 [some (.inr (.inr 92)), some (.inl x1), some (.inl x2), some (.inl x3), some (.inl x4), some (.inl x5), wx6, wx7] [] M) (kf : x5 < (ld M 92 21) → XW kX12_reads d (some .boolean) (wQi Q) 26 [some (.inr (.inr 92)), some (.inl x1), some (.inl x2), some (.inl x3), some (.inl x4), some (.inl x5), wx6, wx7] [] M) : XW kX12_reads d (some .boolean) (wQi Q) 17 [some (.inr (.inr 92)), some (.inl x1), some (.inl x2), some (.inl x3), some (.inl x4), some (.inl x5), wx6, wx7] [] M := by
  refine x_iload rfl rfl ?_
  refine x_aload_n rfl rfl ?_
  refine x_getI rfl sh92 rfl ?_
  exact x_icmpge rfl h1 (rng_ld _ _ _) kt kf
theorem uX12_reads_26 {d : Nat} {Q : Int → yM → Prop} {M : yM} {x1 : Int} {x2 : Int} {x3 : Int} {x4 : Int} {x5 : Int} {wx6 : Option yV} {wx7 : Option yV} (h1 : 0 ≤ x5 ∧ x5 < 60) (k : ∀ M', M' = (put M 92 26 x5) → XW kX12_reads d (some .boolean) (wQi Q) 41 [some (.inr (.inr 92)), some (.inl x1), some (.inl x2), some (.inl x3), some (.inl x4), some (.inl x5), some (.inl (ld M 106 x5)), wx7] [] M') : XW kX12_reads d (some .boolean) (wQi Q) 26 [some (.inr (.inr 92)), some (.inl x1), some (.inl x2), some (.inl x3), some (.inl x4), some (.inl x5), wx6, wx7] [] M := by
  refine x_aload_n rfl rfl ?_
  refine x_getR rfl sh92 rfl ?_
  refine x_iload rfl rfl ?_
  refine x_iaload rfl ⟨sh106, Nat.le_of_ble_eq_true rfl⟩ h1 ?_
  refine x_istore rfl (Nat.le_of_ble_eq_true rfl) rfl ?_
  refine x_aload_n rfl rfl ?_
  refine x_iload rfl rfl ?_
  refine x_putI rfl rfl sh92 rfl ?_
  exact k _ rfl
theorem uX12_reads_41 {d : Nat} {Q : Int → yM → Prop} {M : yM} {x1 : Int} {x2 : Int} {x3 : Int} {x4 : Int} {x5 : Int} {x6 : Int} {wx7 : Option yV} (h1 : -2147483648 ≤ x4 ∧ x4 < 2147483648) (kt : x4 = 0 → XW kX12_reads d (some .boolean) (wQi Q) 73 [some (.inr (.inr 92)), some (.inl x1), some (.inl x2), some (.inl x3), some (.inl x4), some (.inl x5), some (.inl x6), wx7] [] M) (kf : x4 ≠ 0 → XW kX12_reads d (some .boolean) (wQi Q) 46 [some (.inr (.inr 92)), some (.inl x1), some (.inl x2), some (.inl x3), some (.inl x4), some (.inl x5), some (.inl x6), wx7] [] M) : XW kX12_reads d (some .boolean) (wQi Q) 41 [some (.inr (.inr 92)), some (.inl x1), some (.inl x2), some (.inl x3), some (.inl x4), some (.inl x5), some (.inl x6), wx7] [] M := by
  refine x_iload rfl rfl ?_
  exact x_ifeq rfl h1 kt kf
theorem uX12_reads_46 {d : Nat} {Q : Int → yM → Prop} {M : yM} {x1 : Int} {x2 : Int} {x3 : Int} {x4 : Int} {x5 : Int} {x6 : Int} {wx7 : Option yV} (h1 : -2147483648 ≤ x6 ∧ x6 < 2147483648) (kt : x6 = 45 → XW kX12_reads d (some .boolean) (wQi Q) 69 [some (.inr (.inr 92)), some (.inl x1), some (.inl x2), some (.inl x3), some (.inl x4), some (.inl x5), some (.inl x6), wx7] [] M) (kf : x6 ≠ 45 → XW kX12_reads d (some .boolean) (wQi Q) 53 [some (.inr (.inr 92)), some (.inl x1), some (.inl x2), some (.inl x3), some (.inl x4), some (.inl x5), some (.inl x6), wx7] [] M) : XW kX12_reads d (some .boolean) (wQi Q) 46 [some (.inr (.inr 92)), some (.inl x1), some (.inl x2), some (.inl x3), some (.inl x4), some (.inl x5), some (.inl x6), wx7] [] M := by
  refine x_iload rfl rfl ?_
  refine x_bipush 45 rfl (by decide) ?_
  exact x_icmpeq rfl h1 (by decide) kt kf
theorem uX12_reads_53 {d : Nat} {Q : Int → yM → Prop} {M : yM} {x1 : Int} {x2 : Int} {x3 : Int} {x4 : Int} {x5 : Int} {x6 : Int} {wx7 : Option yV} (h1 : -2147483648 ≤ x6 ∧ x6 < 2147483648) (kt : x6 = 126 → XW kX12_reads d (some .boolean) (wQi Q) 69 [some (.inr (.inr 92)), some (.inl x1), some (.inl x2), some (.inl x3), some (.inl x4), some (.inl x5), some (.inl x6), wx7] [] M) (kf : x6 ≠ 126 → XW kX12_reads d (some .boolean) (wQi Q) 60 [some (.inr (.inr 92)), some (.inl x1), some (.inl x2), some (.inl x3), some (.inl x4), some (.inl x5), some (.inl x6), wx7] [] M) : XW kX12_reads d (some .boolean) (wQi Q) 53 [some (.inr (.inr 92)), some (.inl x1), some (.inl x2), some (.inl x3), some (.inl x4), some (.inl x5), some (.inl x6), wx7] [] M := by
  refine x_iload rfl rfl ?_
  refine x_bipush 126 rfl (by decide) ?_
  exact x_icmpeq rfl h1 (by decide) kt kf
theorem uX12_reads_60 {d : Nat} {Q : Int → yM → Prop} {M : yM} {x1 : Int} {x2 : Int} {x3 : Int} {x4 : Int} {x5 : Int} {x6 : Int} {wx7 : Option yV} (k : XCi d 164 [.inr (.inr 92), .inl x6] M (fun v M' => XW kX12_reads (d + 1) (some .boolean) (wQi Q) 66 [some (.inr (.inr 92)), some (.inl x1), some (.inl x2), some (.inl x3), some (.inl x4), some (.inl x5), some (.inl x6), wx7] [.inl v] M')) : XW kX12_reads (d + 1) (some .boolean) (wQi Q) 60 [some (.inr (.inr 92)), some (.inl x1), some (.inl x2), some (.inl x3), some (.inl x4), some (.inl x5), some (.inl x6), wx7] [] M := by
  refine x_aload_n rfl rfl ?_
  refine x_iload rfl rfl ?_
  exact x_calli (args := [.inr (.inr 92), .inl x6]) rfl rfl rfl k
theorem uX12_reads_66 {d : Nat} {Q : Int → yM → Prop} {M : yM} {x1 : Int} {x2 : Int} {x3 : Int} {x4 : Int} {x5 : Int} {x6 : Int} {wx7 : Option yV} {s0 : Int} (h1 : -2147483648 ≤ s0 ∧ s0 < 2147483648) (kt : s0 = 0 → XW kX12_reads d (some .boolean) (wQi Q) 73 [some (.inr (.inr 92)), some (.inl x1), some (.inl x2), some (.inl x3), some (.inl x4), some (.inl x5), some (.inl x6), wx7] [] M) (kf : s0 ≠ 0 → XW kX12_reads d (some .boolean) (wQi Q) 69 [some (.inr (.inr 92)), some (.inl x1), some (.inl x2), some (.inl x3), some (.inl x4), some (.inl x5), some (.inl x6), wx7] [] M) : XW kX12_reads d (some .boolean) (wQi Q) 66 [some (.inr (.inr 92)), some (.inl x1), some (.inl x2), some (.inl x3), some (.inl x4), some (.inl x5), some (.inl x6), wx7] [.inl s0] M := by
  exact x_ifeq rfl h1 kt kf
theorem uX12_reads_69 {d : Nat} {Q : Int → yM → Prop} {M : yM} {x1 : Int} {x2 : Int} {x3 : Int} {x4 : Int} {x5 : Int} {x6 : Int} {wx7 : Option yV} (k : XW kX12_reads d (some .boolean) (wQi Q) 74 [some (.inr (.inr 92)), some (.inl x1), some (.inl x2), some (.inl x3), some (.inl x4), some (.inl x5), some (.inl x6), wx7] [.inl 1] M) : XW kX12_reads d (some .boolean) (wQi Q) 69 [some (.inr (.inr 92)), some (.inl x1), some (.inl x2), some (.inl x3), some (.inl x4), some (.inl x5), some (.inl x6), wx7] [] M := by
  refine x_iconst 1 rfl (by decide) ?_
  exact x_goto rfl k
theorem uX12_reads_73 {d : Nat} {Q : Int → yM → Prop} {M : yM} {x1 : Int} {x2 : Int} {x3 : Int} {x4 : Int} {x5 : Int} {x6 : Int} {wx7 : Option yV} (k : XW kX12_reads d (some .boolean) (wQi Q) 74 [some (.inr (.inr 92)), some (.inl x1), some (.inl x2), some (.inl x3), some (.inl x4), some (.inl x5), some (.inl x6), wx7] [.inl 0] M) : XW kX12_reads d (some .boolean) (wQi Q) 73 [some (.inr (.inr 92)), some (.inl x1), some (.inl x2), some (.inl x3), some (.inl x4), some (.inl x5), some (.inl x6), wx7] [] M := by
  refine x_iconst 0 rfl (by decide) ?_
  exact k
theorem uX12_reads_74 {d : Nat} {Q : Int → yM → Prop} {M : yM} {x1 : Int} {x2 : Int} {x3 : Int} {x4 : Int} {x5 : Int} {x6 : Int} {wx7 : Option yV} {s0 : Int} (h1 : -2147483648 ≤ s0 ∧ s0 < 2147483648) (kt : s0 = 0 → XW kX12_reads d (some .boolean) (wQi Q) 89 [some (.inr (.inr 92)), some (.inl x1), some (.inl x2), some (.inl x3), some (.inl x4), some (.inl x5), some (.inl x6), some (.inl s0)] [] M) (kf : s0 ≠ 0 → XW kX12_reads d (some .boolean) (wQi Q) 81 [some (.inr (.inr 92)), some (.inl x1), some (.inl x2), some (.inl x3), some (.inl x4), some (.inl x5), some (.inl x6), some (.inl s0)] [] M) : XW kX12_reads d (some .boolean) (wQi Q) 74 [some (.inr (.inr 92)), some (.inl x1), some (.inl x2), some (.inl x3), some (.inl x4), some (.inl x5), some (.inl x6), wx7] [.inl s0] M := by
  refine x_istore rfl (Nat.le_of_ble_eq_true rfl) rfl ?_
  refine x_iload rfl rfl ?_
  exact x_ifeq rfl h1 kt kf
theorem uX12_reads_81 {d : Nat} {Q : Int → yM → Prop} {M : yM} {x1 : Int} {x2 : Int} {x3 : Int} {x4 : Int} {x5 : Int} {x6 : Int} {x7 : Int} (h1 : -2147483648 ≤ x3 ∧ x3 < 2147483648) (kt : x3 ≠ 40 → XW kX12_reads d (some .boolean) (wQi Q) 89 [some (.inr (.inr 92)), some (.inl x1), some (.inl x2), some (.inl x3), some (.inl x4), some (.inl x5), some (.inl x6), some (.inl x7)] [] M) (kf : x3 = 40 → XW kX12_reads d (some .boolean) (wQi Q) 87 [some (.inr (.inr 92)), some (.inl x1), some (.inl x2), some (.inl x3), some (.inl x4), some (.inl x5), some (.inl x6), some (.inl x7)] [] M) : XW kX12_reads d (some .boolean) (wQi Q) 81 [some (.inr (.inr 92)), some (.inl x1), some (.inl x2), some (.inl x3), some (.inl x4), some (.inl x5), some (.inl x6), some (.inl x7)] [] M := by
  refine x_iload_n rfl rfl ?_
  refine x_bipush 40 rfl (by decide) ?_
  exact x_icmpne rfl h1 (by decide) kt kf
theorem uX12_reads_87 {d : Nat} {Q : Int → yM → Prop} {M : yM} {x1 : Int} {x2 : Int} {x3 : Int} {x4 : Int} {x5 : Int} {x6 : Int} {x7 : Int} (k : Q 0 M) : XW kX12_reads d (some .boolean) (wQi Q) 87 [some (.inr (.inr 92)), some (.inl x1), some (.inl x2), some (.inl x3), some (.inl x4), some (.inl x5), some (.inl x6), some (.inl x7)] [] M := by
  refine x_iconst 0 rfl (by decide) ?_
  exact x_zreturn rfl (by decide) k
theorem uX12_reads_89 {d : Nat} {Q : Int → yM → Prop} {M : yM} {x1 : Int} {x2 : Int} {x3 : Int} {x4 : Int} {x5 : Int} {x6 : Int} {x7 : Int} (h1 : -2147483648 ≤ x7 ∧ x7 < 2147483648) (kt : x7 = 0 → XW kX12_reads d (some .boolean) (wQi Q) 99 [some (.inr (.inr 92)), some (.inl x1), some (.inl x2), some (.inl x3), some (.inl x4), some (.inl x5), some (.inl x6), some (.inl x7)] [.inl x3] M) (kf : x7 ≠ 0 → XW kX12_reads d (some .boolean) (wQi Q) 95 [some (.inr (.inr 92)), some (.inl x1), some (.inl x2), some (.inl x3), some (.inl x4), some (.inl x5), some (.inl x6), some (.inl x7)] [.inl x3] M) : XW kX12_reads d (some .boolean) (wQi Q) 89 [some (.inr (.inr 92)), some (.inl x1), some (.inl x2), some (.inl x3), some (.inl x4), some (.inl x5), some (.inl x6), some (.inl x7)] [] M := by
  refine x_iload_n rfl rfl ?_
  refine x_iload rfl rfl ?_
  exact x_ifeq rfl h1 kt kf
theorem uX12_reads_95 {d : Nat} {Q : Int → yM → Prop} {M : yM} {x1 : Int} {x2 : Int} {x3 : Int} {x4 : Int} {x5 : Int} {x6 : Int} {x7 : Int} {s0 : Int} (k : XW kX12_reads d (some .boolean) (wQi Q) 100 [some (.inr (.inr 92)), some (.inl x1), some (.inl x2), some (.inl x3), some (.inl x4), some (.inl x5), some (.inl x6), some (.inl x7)] [.inl 1, .inl s0] M) : XW kX12_reads d (some .boolean) (wQi Q) 95 [some (.inr (.inr 92)), some (.inl x1), some (.inl x2), some (.inl x3), some (.inl x4), some (.inl x5), some (.inl x6), some (.inl x7)] [.inl s0] M := by
  refine x_iconst 1 rfl (by decide) ?_
  exact x_goto rfl k
theorem uX12_reads_99 {d : Nat} {Q : Int → yM → Prop} {M : yM} {x1 : Int} {x2 : Int} {x3 : Int} {x4 : Int} {x5 : Int} {x6 : Int} {x7 : Int} {s0 : Int} (k : XW kX12_reads d (some .boolean) (wQi Q) 100 [some (.inr (.inr 92)), some (.inl x1), some (.inl x2), some (.inl x3), some (.inl x4), some (.inl x5), some (.inl x6), some (.inl x7)] [.inl 0, .inl s0] M) : XW kX12_reads d (some .boolean) (wQi Q) 99 [some (.inr (.inr 92)), some (.inl x1), some (.inl x2), some (.inl x3), some (.inl x4), some (.inl x5), some (.inl x6), some (.inl x7)] [.inl s0] M := by
  refine x_iconst 0 rfl (by decide) ?_
  exact k
theorem uX12_reads_100 {d : Nat} {Q : Int → yM → Prop} {M : yM} {x1 : Int} {x2 : Int} {x3 : Int} {x4 : Int} {x5 : Int} {x6 : Int} {x7 : Int} {s0 : Int} {s1 : Int} (h1 : -2147483648 ≤ x4 ∧ x4 < 2147483648) (kt : x4 = 0 → XW kX12_reads d (some .boolean) (wQi Q) 188 [some (.inr (.inr 92)), some (.inl x1), some (.inl x2), some (.inl (s1 + s0)), some (.inl x4), some (.inl x5), some (.inl x6), some (.inl x7)] [] M) (kf : x4 ≠ 0 → XW kX12_reads d (some .boolean) (wQi Q) 107 [some (.inr (.inr 92)), some (.inl x1), some (.inl x2), some (.inl (s1 + s0)), some (.inl x4), some (.inl x5), some (.inl x6), some (.inl x7)] [] M) : XW kX12_reads d (some .boolean) (wQi Q) 100 [some (.inr (.inr 92)), some (.inl x1), some (.inl x2), some (.inl x3), some (.inl x4), some (.inl x5), some (.inl x6), some (.inl x7)] [.inl s0, .inl s1] M := by
  refine x_iadd rfl ?_
  refine x_istore_n rfl (Nat.le_of_ble_eq_true rfl) rfl ?_
  refine x_iload rfl rfl ?_
  exact x_ifeq rfl h1 kt kf
theorem uX12_reads_107 {d : Nat} {Q : Int → yM → Prop} {M : yM} {x1 : Int} {x2 : Int} {x3 : Int} {x4 : Int} {x5 : Int} {x6 : Int} {x7 : Int} (h1 : -2147483648 ≤ x6 ∧ x6 < 2147483648) (kt : x6 = 45 → XW kX12_reads d (some .boolean) (wQi Q) 121 [some (.inr (.inr 92)), some (.inl x1), some (.inl x2), some (.inl x3), some (.inl x4), some (.inl x5), some (.inl x6), some (.inl x7)] [] M) (kf : x6 ≠ 45 → XW kX12_reads d (some .boolean) (wQi Q) 114 [some (.inr (.inr 92)), some (.inl x1), some (.inl x2), some (.inl x3), some (.inl x4), some (.inl x5), some (.inl x6), some (.inl x7)] [] M) : XW kX12_reads d (some .boolean) (wQi Q) 107 [some (.inr (.inr 92)), some (.inl x1), some (.inl x2), some (.inl x3), some (.inl x4), some (.inl x5), some (.inl x6), some (.inl x7)] [] M := by
  refine x_iload rfl rfl ?_
  refine x_bipush 45 rfl (by decide) ?_
  exact x_icmpeq rfl h1 (by decide) kt kf
theorem uX12_reads_114 {d : Nat} {Q : Int → yM → Prop} {M : yM} {x1 : Int} {x2 : Int} {x3 : Int} {x4 : Int} {x5 : Int} {x6 : Int} {x7 : Int} (h1 : -2147483648 ≤ x6 ∧ x6 < 2147483648) (kt : x6 ≠ 126 → XW kX12_reads d (some .boolean) (wQi Q) 135 [some (.inr (.inr 92)), some (.inl x1), some (.inl x2), some (.inl x3), some (.inl x4), some (.inl x5), some (.inl x6), some (.inl x7)] [] M) (kf : x6 = 126 → XW kX12_reads d (some .boolean) (wQi Q) 121 [some (.inr (.inr 92)), some (.inl x1), some (.inl x2), some (.inl x3), some (.inl x4), some (.inl x5), some (.inl x6), some (.inl x7)] [] M) : XW kX12_reads d (some .boolean) (wQi Q) 114 [some (.inr (.inr 92)), some (.inl x1), some (.inl x2), some (.inl x3), some (.inl x4), some (.inl x5), some (.inl x6), some (.inl x7)] [] M := by
  refine x_iload rfl rfl ?_
  refine x_bipush 126 rfl (by decide) ?_
  exact x_icmpne rfl h1 (by decide) kt kf
theorem uX12_reads_121 {d : Nat} {Q : Int → yM → Prop} {M : yM} {x1 : Int} {x2 : Int} {x3 : Int} {x4 : Int} {x5 : Int} {x6 : Int} {x7 : Int} (h1 : 0 ≤ x1 ∧ x1 < 80) (k : ∀ M', M' = (put M 110 x1 x6) → XW kX12_reads d (some .boolean) (wQi Q) 129 [some (.inr (.inr 92)), some (.inl x1), some (.inl x2), some (.inl x3), some (.inl x4), some (.inl x5), some (.inl x6), some (.inl x7)] [] M') : XW kX12_reads d (some .boolean) (wQi Q) 121 [some (.inr (.inr 92)), some (.inl x1), some (.inl x2), some (.inl x3), some (.inl x4), some (.inl x5), some (.inl x6), some (.inl x7)] [] M := by
  refine x_aload_n rfl rfl ?_
  refine x_getR rfl sh92 rfl ?_
  refine x_iload_n rfl rfl ?_
  refine x_iload rfl rfl ?_
  refine x_iastore rfl ⟨sh110, Nat.le_of_ble_eq_true rfl⟩ h1  ?_
  exact k _ rfl
theorem uX12_reads_129 {d : Nat} {Q : Int → yM → Prop} {M : yM} {x1 : Int} {x2 : Int} {x3 : Int} {x4 : Int} {x5 : Int} {x6 : Int} {x7 : Int} (k : XW kX12_reads d (some .boolean) (wQi Q) 303 [some (.inr (.inr 92)), some (.inl (x1 + 1)), some (.inl x2), some (.inl x3), some (.inl x4), some (.inl x5), some (.inl x6), some (.inl x7)] [] M) : XW kX12_reads d (some .boolean) (wQi Q) 129 [some (.inr (.inr 92)), some (.inl x1), some (.inl x2), some (.inl x3), some (.inl x4), some (.inl x5), some (.inl x6), some (.inl x7)] [] M := by
  refine x_iinc 1 rfl (by decide) rfl rfl ?_
  exact x_goto rfl k
theorem uX12_reads_135 {d : Nat} {Q : Int → yM → Prop} {M : yM} {x1 : Int} {x2 : Int} {x3 : Int} {x4 : Int} {x5 : Int} {x6 : Int} {x7 : Int} (h1 : -2147483648 ≤ x6 ∧ x6 < 2147483648) (kt : x6 ≠ 40 → XW kX12_reads d (some .boolean) (wQi Q) 165 [some (.inr (.inr 92)), some (.inl x1), some (.inl x2), some (.inl x3), some (.inl x4), some (.inl x5), some (.inl x6), some (.inl x7)] [] M) (kf : x6 = 40 → XW kX12_reads d (some .boolean) (wQi Q) 142 [some (.inr (.inr 92)), some (.inl x1), some (.inl x2), some (.inl x3), some (.inl x4), some (.inl x5), some (.inl x6), some (.inl x7)] [] M) : XW kX12_reads d (some .boolean) (wQi Q) 135 [some (.inr (.inr 92)), some (.inl x1), some (.inl x2), some (.inl x3), some (.inl x4), some (.inl x5), some (.inl x6), some (.inl x7)] [] M := by
  refine x_iload rfl rfl ?_
  refine x_bipush 40 rfl (by decide) ?_
  exact x_icmpne rfl h1 (by decide) kt kf
theorem uX12_reads_142 {d : Nat} {Q : Int → yM → Prop} {M : yM} {x1 : Int} {x2 : Int} {x3 : Int} {x4 : Int} {x5 : Int} {x6 : Int} {x7 : Int} (h1 : -2147483648 ≤ x2 ∧ x2 < 2147483648) (kt : x2 ≥ 10 → XW kX12_reads d (some .boolean) (wQi Q) 165 [some (.inr (.inr 92)), some (.inl x1), some (.inl x2), some (.inl x3), some (.inl x4), some (.inl x5), some (.inl x6), some (.inl x7)] [] M) (kf : x2 < 10 → XW kX12_reads d (some .boolean) (wQi Q) 148 [some (.inr (.inr 92)), some (.inl x1), some (.inl x2), some (.inl x3), some (.inl x4), some (.inl x5), some (.inl x6), some (.inl x7)] [] M) : XW kX12_reads d (some .boolean) (wQi Q) 142 [some (.inr (.inr 92)), some (.inl x1), some (.inl x2), some (.inl x3), some (.inl x4), some (.inl x5), some (.inl x6), some (.inl x7)] [] M := by
  refine x_iload_n rfl rfl ?_
  refine x_bipush 10 rfl (by decide) ?_
  exact x_icmpge rfl h1 (by decide) kt kf
theorem uX12_reads_148 {d : Nat} {Q : Int → yM → Prop} {M : yM} {x1 : Int} {x2 : Int} {x3 : Int} {x4 : Int} {x5 : Int} {x6 : Int} {x7 : Int} (h1 : 0 ≤ x1 ∧ x1 < 80) (k : ∀ M', M' = (put M 110 x1 x6) → XW kX12_reads d (some .boolean) (wQi Q) 156 [some (.inr (.inr 92)), some (.inl x1), some (.inl x2), some (.inl x3), some (.inl x4), some (.inl x5), some (.inl x6), some (.inl x7)] [] M') : XW kX12_reads d (some .boolean) (wQi Q) 148 [some (.inr (.inr 92)), some (.inl x1), some (.inl x2), some (.inl x3), some (.inl x4), some (.inl x5), some (.inl x6), some (.inl x7)] [] M := by
  refine x_aload_n rfl rfl ?_
  refine x_getR rfl sh92 rfl ?_
  refine x_iload_n rfl rfl ?_
  refine x_iload rfl rfl ?_
  refine x_iastore rfl ⟨sh110, Nat.le_of_ble_eq_true rfl⟩ h1  ?_
  exact k _ rfl
theorem uX12_reads_156 {d : Nat} {Q : Int → yM → Prop} {M : yM} {x1 : Int} {x2 : Int} {x3 : Int} {x4 : Int} {x5 : Int} {x6 : Int} {x7 : Int} (k : XW kX12_reads d (some .boolean) (wQi Q) 303 [some (.inr (.inr 92)), some (.inl (x1 + 1)), some (.inl (x2 + 1)), some (.inl x3), some (.inl x4), some (.inl x5), some (.inl x6), some (.inl x7)] [] M) : XW kX12_reads d (some .boolean) (wQi Q) 156 [some (.inr (.inr 92)), some (.inl x1), some (.inl x2), some (.inl x3), some (.inl x4), some (.inl x5), some (.inl x6), some (.inl x7)] [] M := by
  refine x_iinc 1 rfl (by decide) rfl rfl ?_
  refine x_iinc 1 rfl (by decide) rfl rfl ?_
  exact x_goto rfl k
theorem uX12_reads_165 {d : Nat} {Q : Int → yM → Prop} {M : yM} {x1 : Int} {x2 : Int} {x3 : Int} {x4 : Int} {x5 : Int} {x6 : Int} {x7 : Int} (k : XCi d 164 [.inr (.inr 92), .inl x6] M (fun v M' => XW kX12_reads (d + 1) (some .boolean) (wQi Q) 171 [some (.inr (.inr 92)), some (.inl x1), some (.inl x2), some (.inl x3), some (.inl x4), some (.inl x5), some (.inl x6), some (.inl x7)] [.inl v] M')) : XW kX12_reads (d + 1) (some .boolean) (wQi Q) 165 [some (.inr (.inr 92)), some (.inl x1), some (.inl x2), some (.inl x3), some (.inl x4), some (.inl x5), some (.inl x6), some (.inl x7)] [] M := by
  refine x_aload_n rfl rfl ?_
  refine x_iload rfl rfl ?_
  exact x_calli (args := [.inr (.inr 92), .inl x6]) rfl rfl rfl k
theorem uX12_reads_171 {d : Nat} {Q : Int → yM → Prop} {M : yM} {x1 : Int} {x2 : Int} {x3 : Int} {x4 : Int} {x5 : Int} {x6 : Int} {x7 : Int} {s0 : Int} (h1 : -2147483648 ≤ s0 ∧ s0 < 2147483648) (kt : s0 = 0 → XW kX12_reads d (some .boolean) (wQi Q) 186 [some (.inr (.inr 92)), some (.inl x1), some (.inl x2), some (.inl x3), some (.inl x4), some (.inl x5), some (.inl x6), some (.inl x7)] [] M) (kf : s0 ≠ 0 → XW kX12_reads d (some .boolean) (wQi Q) 174 [some (.inr (.inr 92)), some (.inl x1), some (.inl x2), some (.inl x3), some (.inl x4), some (.inl x5), some (.inl x6), some (.inl x7)] [] M) : XW kX12_reads d (some .boolean) (wQi Q) 171 [some (.inr (.inr 92)), some (.inl x1), some (.inl x2), some (.inl x3), some (.inl x4), some (.inl x5), some (.inl x6), some (.inl x7)] [.inl s0] M := by
  exact x_ifeq rfl h1 kt kf
theorem uX12_reads_174 {d : Nat} {Q : Int → yM → Prop} {M : yM} {x1 : Int} {x2 : Int} {x3 : Int} {x4 : Int} {x5 : Int} {x6 : Int} {x7 : Int} (k : XCv d 166 [.inr (.inr 92), .inl x6] M (fun M' => XW kX12_reads (d + 1) (some .boolean) (wQi Q) 180 [some (.inr (.inr 92)), some (.inl x1), some (.inl x2), some (.inl x3), some (.inl x4), some (.inl x5), some (.inl x6), some (.inl x7)] [] M')) : XW kX12_reads (d + 1) (some .boolean) (wQi Q) 174 [some (.inr (.inr 92)), some (.inl x1), some (.inl x2), some (.inl x3), some (.inl x4), some (.inl x5), some (.inl x6), some (.inl x7)] [] M := by
  refine x_aload_n rfl rfl ?_
  refine x_iload rfl rfl ?_
  exact x_callv (args := [.inr (.inr 92), .inl x6]) rfl rfl rfl k
theorem uX12_reads_180 {d : Nat} {Q : Int → yM → Prop} {M : yM} {x1 : Int} {x2 : Int} {x3 : Int} {x4 : Int} {x5 : Int} {x6 : Int} {x7 : Int} (k : XW kX12_reads d (some .boolean) (wQi Q) 303 [some (.inr (.inr 92)), some (.inl x1), some (.inl x2), some (.inl x3), some (.inl 0), some (.inl x5), some (.inl x6), some (.inl x7)] [] M) : XW kX12_reads d (some .boolean) (wQi Q) 180 [some (.inr (.inr 92)), some (.inl x1), some (.inl x2), some (.inl x3), some (.inl x4), some (.inl x5), some (.inl x6), some (.inl x7)] [] M := by
  refine x_iconst 0 rfl (by decide) ?_
  refine x_istore rfl (Nat.le_of_ble_eq_true rfl) rfl ?_
  exact x_goto rfl k
theorem uX12_reads_186 {d : Nat} {Q : Int → yM → Prop} {M : yM} {x1 : Int} {x2 : Int} {x3 : Int} {x4 : Int} {x5 : Int} {x6 : Int} {x7 : Int} (k : Q 0 M) : XW kX12_reads d (some .boolean) (wQi Q) 186 [some (.inr (.inr 92)), some (.inl x1), some (.inl x2), some (.inl x3), some (.inl x4), some (.inl x5), some (.inl x6), some (.inl x7)] [] M := by
  refine x_iconst 0 rfl (by decide) ?_
  exact x_zreturn rfl (by decide) k
theorem uX12_reads_188 {d : Nat} {Q : Int → yM → Prop} {M : yM} {x1 : Int} {x2 : Int} {x3 : Int} {x4 : Int} {x5 : Int} {x6 : Int} {x7 : Int} (k : XCi d 165 [.inl x6] M (fun v M' => XW kX12_reads (d + 1) (some .boolean) (wQi Q) 193 [some (.inr (.inr 92)), some (.inl x1), some (.inl x2), some (.inl x3), some (.inl x4), some (.inl x5), some (.inl x6), some (.inl x7)] [.inl v] M')) : XW kX12_reads (d + 1) (some .boolean) (wQi Q) 188 [some (.inr (.inr 92)), some (.inl x1), some (.inl x2), some (.inl x3), some (.inl x4), some (.inl x5), some (.inl x6), some (.inl x7)] [] M := by
  refine x_iload rfl rfl ?_
  exact x_calli (args := [.inl x6]) rfl rfl rfl k
theorem uX12_reads_193 {d : Nat} {Q : Int → yM → Prop} {M : yM} {x1 : Int} {x2 : Int} {x3 : Int} {x4 : Int} {x5 : Int} {x6 : Int} {x7 : Int} {s0 : Int} (h1 : -2147483648 ≤ s0 ∧ s0 < 2147483648) (kt : s0 ≤ 0 → XW kX12_reads d (some .boolean) (wQi Q) 252 [some (.inr (.inr 92)), some (.inl x1), some (.inl x2), some (.inl x3), some (.inl x4), some (.inl x5), some (.inl x6), some (.inl x7)] [] M) (kf : s0 > 0 → XW kX12_reads d (some .boolean) (wQi Q) 196 [some (.inr (.inr 92)), some (.inl x1), some (.inl x2), some (.inl x3), some (.inl x4), some (.inl x5), some (.inl x6), some (.inl x7)] [] M) : XW kX12_reads d (some .boolean) (wQi Q) 193 [some (.inr (.inr 92)), some (.inl x1), some (.inl x2), some (.inl x3), some (.inl x4), some (.inl x5), some (.inl x6), some (.inl x7)] [.inl s0] M := by
  exact x_ifle rfl h1 kt kf
theorem uX12_reads_196 {d : Nat} {Q : Int → yM → Prop} {M : yM} {x1 : Int} {x2 : Int} {x3 : Int} {x4 : Int} {x5 : Int} {x6 : Int} {x7 : Int} (h1 : -2147483648 ≤ x1 ∧ x1 < 2147483648) (kt : x1 ≤ 0 → XW kX12_reads d (some .boolean) (wQi Q) 235 [some (.inr (.inr 92)), some (.inl x1), some (.inl x2), some (.inl x3), some (.inl x4), some (.inl x5), some (.inl x6), some (.inl x7)] [] M) (kf : x1 > 0 → XW kX12_reads d (some .boolean) (wQi Q) 200 [some (.inr (.inr 92)), some (.inl x1), some (.inl x2), some (.inl x3), some (.inl x4), some (.inl x5), some (.inl x6), some (.inl x7)] [] M) : XW kX12_reads d (some .boolean) (wQi Q) 196 [some (.inr (.inr 92)), some (.inl x1), some (.inl x2), some (.inl x3), some (.inl x4), some (.inl x5), some (.inl x6), some (.inl x7)] [] M := by
  refine x_iload_n rfl rfl ?_
  exact x_ifle rfl h1 kt kf
theorem uX12_reads_200 {d : Nat} {Q : Int → yM → Prop} {M : yM} {x1 : Int} {x2 : Int} {x3 : Int} {x4 : Int} {x5 : Int} {x6 : Int} {x7 : Int} (h1 : 0 ≤ (x1 - 1) ∧ (x1 - 1) < 80) (k : XCi d 165 [.inl (ld M 110 (x1 - 1))] M (fun v M' => XW kX12_reads (d + 1) (some .boolean) (wQi Q) 211 [some (.inr (.inr 92)), some (.inl x1), some (.inl x2), some (.inl x3), some (.inl x4), some (.inl x5), some (.inl x6), some (.inl x7)] [.inl v] M')) : XW kX12_reads (d + 1) (some .boolean) (wQi Q) 200 [some (.inr (.inr 92)), some (.inl x1), some (.inl x2), some (.inl x3), some (.inl x4), some (.inl x5), some (.inl x6), some (.inl x7)] [] M := by
  refine x_aload_n rfl rfl ?_
  refine x_getR rfl sh92 rfl ?_
  refine x_iload_n rfl rfl ?_
  refine x_iconst 1 rfl (by decide) ?_
  refine x_isub rfl ?_
  refine x_iaload rfl ⟨sh110, Nat.le_of_ble_eq_true rfl⟩ h1 ?_
  exact x_calli (args := [.inl (ld M 110 (x1 - 1))]) rfl rfl rfl k
theorem uX12_reads_211 {d : Nat} {Q : Int → yM → Prop} {M : yM} {x1 : Int} {x2 : Int} {x3 : Int} {x4 : Int} {x5 : Int} {x6 : Int} {x7 : Int} {s0 : Int} (k : XCi d 165 [.inl x6] M (fun v M' => XW kX12_reads (d + 1) (some .boolean) (wQi Q) 216 [some (.inr (.inr 92)), some (.inl x1), some (.inl x2), some (.inl x3), some (.inl x4), some (.inl x5), some (.inl x6), some (.inl x7)] [.inl v, .inl s0] M')) : XW kX12_reads (d + 1) (some .boolean) (wQi Q) 211 [some (.inr (.inr 92)), some (.inl x1), some (.inl x2), some (.inl x3), some (.inl x4), some (.inl x5), some (.inl x6), some (.inl x7)] [.inl s0] M := by
  refine x_iload rfl rfl ?_
  exact x_calli (args := [.inl x6]) rfl rfl rfl k
theorem uX12_reads_216 {d : Nat} {Q : Int → yM → Prop} {M : yM} {x1 : Int} {x2 : Int} {x3 : Int} {x4 : Int} {x5 : Int} {x6 : Int} {x7 : Int} {s0 : Int} {s1 : Int} (h1 : -2147483648 ≤ s1 ∧ s1 < 2147483648) (h2 : -2147483648 ≤ s0 ∧ s0 < 2147483648) (kt : s1 < s0 → XW kX12_reads d (some .boolean) (wQi Q) 235 [some (.inr (.inr 92)), some (.inl x1), some (.inl x2), some (.inl x3), some (.inl x4), some (.inl x5), some (.inl x6), some (.inl x7)] [] M) (kf : s1 ≥ s0 → XW kX12_reads d (some .boolean) (wQi Q) 219 [some (.inr (.inr 92)), some (.inl x1), some (.inl x2), some (.inl x3), some (.inl x4), some (.inl x5), some (.inl x6), some (.inl x7)] [] M) : XW kX12_reads d (some .boolean) (wQi Q) 216 [some (.inr (.inr 92)), some (.inl x1), some (.inl x2), some (.inl x3), some (.inl x4), some (.inl x5), some (.inl x6), some (.inl x7)] [.inl s0, .inl s1] M := by
  exact x_icmplt rfl h1 h2 kt kf
theorem uX12_reads_219 {d : Nat} {Q : Int → yM → Prop} {M : yM} {x1 : Int} {x2 : Int} {x3 : Int} {x4 : Int} {x5 : Int} {x6 : Int} {x7 : Int} (h1 : 0 ≤ (x1 + (-1)) ∧ (x1 + (-1)) < 80) (k : XCv d 166 [.inr (.inr 92), .inl (ld M 110 (x1 + (-1)))] M (fun M' => XW kX12_reads (d + 1) (some .boolean) (wQi Q) 232 [some (.inr (.inr 92)), some (.inl (x1 + (-1))), some (.inl x2), some (.inl x3), some (.inl x4), some (.inl x5), some (.inl x6), some (.inl x7)] [] M')) : XW kX12_reads (d + 1) (some .boolean) (wQi Q) 219 [some (.inr (.inr 92)), some (.inl x1), some (.inl x2), some (.inl x3), some (.inl x4), some (.inl x5), some (.inl x6), some (.inl x7)] [] M := by
  refine x_iinc (-1) rfl (by decide) rfl rfl ?_
  refine x_aload_n rfl rfl ?_
  refine x_aload_n rfl rfl ?_
  refine x_getR rfl sh92 rfl ?_
  refine x_iload_n rfl rfl ?_
  refine x_iaload rfl ⟨sh110, Nat.le_of_ble_eq_true rfl⟩ h1 ?_
  exact x_callv (args := [.inr (.inr 92), .inl (ld M 110 (x1 + (-1)))]) rfl rfl rfl k
theorem uX12_reads_232 {d : Nat} {Q : Int → yM → Prop} {M : yM} {x1 : Int} {x2 : Int} {x3 : Int} {x4 : Int} {x5 : Int} {x6 : Int} {x7 : Int} (k : XW kX12_reads d (some .boolean) (wQi Q) 196 [some (.inr (.inr 92)), some (.inl x1), some (.inl x2), some (.inl x3), some (.inl x4), some (.inl x5), some (.inl x6), some (.inl x7)] [] M) : XW kX12_reads d (some .boolean) (wQi Q) 232 [some (.inr (.inr 92)), some (.inl x1), some (.inl x2), some (.inl x3), some (.inl x4), some (.inl x5), some (.inl x6), some (.inl x7)] [] M := by
  exact x_goto rfl k
theorem uX12_reads_235 {d : Nat} {Q : Int → yM → Prop} {M : yM} {x1 : Int} {x2 : Int} {x3 : Int} {x4 : Int} {x5 : Int} {x6 : Int} {x7 : Int} (h1 : 0 ≤ x1 ∧ x1 < 80) (k : ∀ M', M' = (put M 110 x1 x6) → XW kX12_reads d (some .boolean) (wQi Q) 243 [some (.inr (.inr 92)), some (.inl x1), some (.inl x2), some (.inl x3), some (.inl x4), some (.inl x5), some (.inl x6), some (.inl x7)] [] M') : XW kX12_reads d (some .boolean) (wQi Q) 235 [some (.inr (.inr 92)), some (.inl x1), some (.inl x2), some (.inl x3), some (.inl x4), some (.inl x5), some (.inl x6), some (.inl x7)] [] M := by
  refine x_aload_n rfl rfl ?_
  refine x_getR rfl sh92 rfl ?_
  refine x_iload_n rfl rfl ?_
  refine x_iload rfl rfl ?_
  refine x_iastore rfl ⟨sh110, Nat.le_of_ble_eq_true rfl⟩ h1  ?_
  exact k _ rfl
theorem uX12_reads_243 {d : Nat} {Q : Int → yM → Prop} {M : yM} {x1 : Int} {x2 : Int} {x3 : Int} {x4 : Int} {x5 : Int} {x6 : Int} {x7 : Int} (k : XW kX12_reads d (some .boolean) (wQi Q) 303 [some (.inr (.inr 92)), some (.inl (x1 + 1)), some (.inl x2), some (.inl x3), some (.inl 1), some (.inl x5), some (.inl x6), some (.inl x7)] [] M) : XW kX12_reads d (some .boolean) (wQi Q) 243 [some (.inr (.inr 92)), some (.inl x1), some (.inl x2), some (.inl x3), some (.inl x4), some (.inl x5), some (.inl x6), some (.inl x7)] [] M := by
  refine x_iinc 1 rfl (by decide) rfl rfl ?_
  refine x_iconst 1 rfl (by decide) ?_
  refine x_istore rfl (Nat.le_of_ble_eq_true rfl) rfl ?_
  exact x_goto rfl k
theorem uX12_reads_252 {d : Nat} {Q : Int → yM → Prop} {M : yM} {x1 : Int} {x2 : Int} {x3 : Int} {x4 : Int} {x5 : Int} {x6 : Int} {x7 : Int} (h1 : -2147483648 ≤ x6 ∧ x6 < 2147483648) (kt : x6 ≠ 41 → XW kX12_reads d (some .boolean) (wQi Q) 301 [some (.inr (.inr 92)), some (.inl x1), some (.inl x2), some (.inl x3), some (.inl x4), some (.inl x5), some (.inl x6), some (.inl x7)] [] M) (kf : x6 = 41 → XW kX12_reads d (some .boolean) (wQi Q) 259 [some (.inr (.inr 92)), some (.inl x1), some (.inl x2), some (.inl x3), some (.inl x4), some (.inl x5), some (.inl x6), some (.inl x7)] [] M) : XW kX12_reads d (some .boolean) (wQi Q) 252 [some (.inr (.inr 92)), some (.inl x1), some (.inl x2), some (.inl x3), some (.inl x4), some (.inl x5), some (.inl x6), some (.inl x7)] [] M := by
  refine x_iload rfl rfl ?_
  refine x_bipush 41 rfl (by decide) ?_
  exact x_icmpne rfl h1 (by decide) kt kf
theorem uX12_reads_259 {d : Nat} {Q : Int → yM → Prop} {M : yM} {x1 : Int} {x2 : Int} {x3 : Int} {x4 : Int} {x5 : Int} {x6 : Int} {x7 : Int} (h1 : -2147483648 ≤ x2 ∧ x2 < 2147483648) (kt : x2 ≤ 0 → XW kX12_reads d (some .boolean) (wQi Q) 301 [some (.inr (.inr 92)), some (.inl x1), some (.inl x2), some (.inl x3), some (.inl x4), some (.inl x5), some (.inl x6), some (.inl x7)] [] M) (kf : x2 > 0 → XW kX12_reads d (some .boolean) (wQi Q) 263 [some (.inr (.inr 92)), some (.inl x1), some (.inl x2), some (.inl x3), some (.inl x4), some (.inl x5), some (.inl x6), some (.inl x7)] [] M) : XW kX12_reads d (some .boolean) (wQi Q) 259 [some (.inr (.inr 92)), some (.inl x1), some (.inl x2), some (.inl x3), some (.inl x4), some (.inl x5), some (.inl x6), some (.inl x7)] [] M := by
  refine x_iload_n rfl rfl ?_
  exact x_ifle rfl h1 kt kf
theorem uX12_reads_263 {d : Nat} {Q : Int → yM → Prop} {M : yM} {x1 : Int} {x2 : Int} {x3 : Int} {x4 : Int} {x5 : Int} {x6 : Int} {x7 : Int} (h1 : 0 ≤ (x1 - 1) ∧ (x1 - 1) < 80) (kt : (ld M 110 (x1 - 1)) = 40 → XW kX12_reads d (some .boolean) (wQi Q) 292 [some (.inr (.inr 92)), some (.inl x1), some (.inl x2), some (.inl x3), some (.inl x4), some (.inl x5), some (.inl x6), some (.inl x7)] [] M) (kf : (ld M 110 (x1 - 1)) ≠ 40 → XW kX12_reads d (some .boolean) (wQi Q) 276 [some (.inr (.inr 92)), some (.inl x1), some (.inl x2), some (.inl x3), some (.inl x4), some (.inl x5), some (.inl x6), some (.inl x7)] [] M) : XW kX12_reads d (some .boolean) (wQi Q) 263 [some (.inr (.inr 92)), some (.inl x1), some (.inl x2), some (.inl x3), some (.inl x4), some (.inl x5), some (.inl x6), some (.inl x7)] [] M := by
  refine x_aload_n rfl rfl ?_
  refine x_getR rfl sh92 rfl ?_
  refine x_iload_n rfl rfl ?_
  refine x_iconst 1 rfl (by decide) ?_
  refine x_isub rfl ?_
  refine x_iaload rfl ⟨sh110, Nat.le_of_ble_eq_true rfl⟩ h1 ?_
  refine x_bipush 40 rfl (by decide) ?_
  exact x_icmpeq rfl (rng_ld _ _ _) (by decide) kt kf
theorem uX12_reads_276 {d : Nat} {Q : Int → yM → Prop} {M : yM} {x1 : Int} {x2 : Int} {x3 : Int} {x4 : Int} {x5 : Int} {x6 : Int} {x7 : Int} (h1 : 0 ≤ (x1 + (-1)) ∧ (x1 + (-1)) < 80) (k : XCv d 166 [.inr (.inr 92), .inl (ld M 110 (x1 + (-1)))] M (fun M' => XW kX12_reads (d + 1) (some .boolean) (wQi Q) 289 [some (.inr (.inr 92)), some (.inl (x1 + (-1))), some (.inl x2), some (.inl x3), some (.inl x4), some (.inl x5), some (.inl x6), some (.inl x7)] [] M')) : XW kX12_reads (d + 1) (some .boolean) (wQi Q) 276 [some (.inr (.inr 92)), some (.inl x1), some (.inl x2), some (.inl x3), some (.inl x4), some (.inl x5), some (.inl x6), some (.inl x7)] [] M := by
  refine x_iinc (-1) rfl (by decide) rfl rfl ?_
  refine x_aload_n rfl rfl ?_
  refine x_aload_n rfl rfl ?_
  refine x_getR rfl sh92 rfl ?_
  refine x_iload_n rfl rfl ?_
  refine x_iaload rfl ⟨sh110, Nat.le_of_ble_eq_true rfl⟩ h1 ?_
  exact x_callv (args := [.inr (.inr 92), .inl (ld M 110 (x1 + (-1)))]) rfl rfl rfl k
theorem uX12_reads_289 {d : Nat} {Q : Int → yM → Prop} {M : yM} {x1 : Int} {x2 : Int} {x3 : Int} {x4 : Int} {x5 : Int} {x6 : Int} {x7 : Int} (k : XW kX12_reads d (some .boolean) (wQi Q) 263 [some (.inr (.inr 92)), some (.inl x1), some (.inl x2), some (.inl x3), some (.inl x4), some (.inl x5), some (.inl x6), some (.inl x7)] [] M) : XW kX12_reads d (some .boolean) (wQi Q) 289 [some (.inr (.inr 92)), some (.inl x1), some (.inl x2), some (.inl x3), some (.inl x4), some (.inl x5), some (.inl x6), some (.inl x7)] [] M := by
  exact x_goto rfl k
theorem uX12_reads_292 {d : Nat} {Q : Int → yM → Prop} {M : yM} {x1 : Int} {x2 : Int} {x3 : Int} {x4 : Int} {x5 : Int} {x6 : Int} {x7 : Int} (k : XW kX12_reads d (some .boolean) (wQi Q) 303 [some (.inr (.inr 92)), some (.inl (x1 + (-1))), some (.inl (x2 + (-1))), some (.inl x3), some (.inl x4), some (.inl x5), some (.inl x6), some (.inl x7)] [] M) : XW kX12_reads d (some .boolean) (wQi Q) 292 [some (.inr (.inr 92)), some (.inl x1), some (.inl x2), some (.inl x3), some (.inl x4), some (.inl x5), some (.inl x6), some (.inl x7)] [] M := by
  refine x_iinc (-1) rfl (by decide) rfl rfl ?_
  refine x_iinc (-1) rfl (by decide) rfl rfl ?_
  exact x_goto rfl k
theorem uX12_reads_301 {d : Nat} {Q : Int → yM → Prop} {M : yM} {x1 : Int} {x2 : Int} {x3 : Int} {x4 : Int} {x5 : Int} {x6 : Int} {x7 : Int} (k : Q 0 M) : XW kX12_reads d (some .boolean) (wQi Q) 301 [some (.inr (.inr 92)), some (.inl x1), some (.inl x2), some (.inl x3), some (.inl x4), some (.inl x5), some (.inl x6), some (.inl x7)] [] M := by
  refine x_iconst 0 rfl (by decide) ?_
  exact x_zreturn rfl (by decide) k
theorem uX12_reads_303 {d : Nat} {Q : Int → yM → Prop} {M : yM} {x1 : Int} {x2 : Int} {x3 : Int} {x4 : Int} {x5 : Int} {x6 : Int} {x7 : Int} (h1 : -2147483648 ≤ x4 ∧ x4 < 2147483648) (kt : x4 ≠ 0 → XW kX12_reads d (some .boolean) (wQi Q) 354 [some (.inr (.inr 92)), some (.inl x1), some (.inl x2), some (.inl x3), some (.inl x4), some (.inl x5), some (.inl x6), some (.inl x7)] [] M) (kf : x4 = 0 → XW kX12_reads d (some .boolean) (wQi Q) 308 [some (.inr (.inr 92)), some (.inl x1), some (.inl x2), some (.inl x3), some (.inl x4), some (.inl x5), some (.inl x6), some (.inl x7)] [] M) : XW kX12_reads d (some .boolean) (wQi Q) 303 [some (.inr (.inr 92)), some (.inl x1), some (.inl x2), some (.inl x3), some (.inl x4), some (.inl x5), some (.inl x6), some (.inl x7)] [] M := by
  refine x_iload rfl rfl ?_
  exact x_ifne rfl h1 kt kf
theorem uX12_reads_308 {d : Nat} {Q : Int → yM → Prop} {M : yM} {x1 : Int} {x2 : Int} {x3 : Int} {x4 : Int} {x5 : Int} {x6 : Int} {x7 : Int} (h1 : -2147483648 ≤ x1 ∧ x1 < 2147483648) (kt : x1 ≤ 0 → XW kX12_reads d (some .boolean) (wQi Q) 354 [some (.inr (.inr 92)), some (.inl x1), some (.inl x2), some (.inl x3), some (.inl x4), some (.inl x5), some (.inl x6), some (.inl x7)] [] M) (kf : x1 > 0 → XW kX12_reads d (some .boolean) (wQi Q) 312 [some (.inr (.inr 92)), some (.inl x1), some (.inl x2), some (.inl x3), some (.inl x4), some (.inl x5), some (.inl x6), some (.inl x7)] [] M) : XW kX12_reads d (some .boolean) (wQi Q) 308 [some (.inr (.inr 92)), some (.inl x1), some (.inl x2), some (.inl x3), some (.inl x4), some (.inl x5), some (.inl x6), some (.inl x7)] [] M := by
  refine x_iload_n rfl rfl ?_
  exact x_ifle rfl h1 kt kf
theorem uX12_reads_312 {d : Nat} {Q : Int → yM → Prop} {M : yM} {x1 : Int} {x2 : Int} {x3 : Int} {x4 : Int} {x5 : Int} {x6 : Int} {x7 : Int} (h1 : 0 ≤ (x1 - 1) ∧ (x1 - 1) < 80) (kt : (ld M 110 (x1 - 1)) = 45 → XW kX12_reads d (some .boolean) (wQi Q) 338 [some (.inr (.inr 92)), some (.inl x1), some (.inl x2), some (.inl x3), some (.inl x4), some (.inl x5), some (.inl x6), some (.inl x7)] [] M) (kf : (ld M 110 (x1 - 1)) ≠ 45 → XW kX12_reads d (some .boolean) (wQi Q) 325 [some (.inr (.inr 92)), some (.inl x1), some (.inl x2), some (.inl x3), some (.inl x4), some (.inl x5), some (.inl x6), some (.inl x7)] [] M) : XW kX12_reads d (some .boolean) (wQi Q) 312 [some (.inr (.inr 92)), some (.inl x1), some (.inl x2), some (.inl x3), some (.inl x4), some (.inl x5), some (.inl x6), some (.inl x7)] [] M := by
  refine x_aload_n rfl rfl ?_
  refine x_getR rfl sh92 rfl ?_
  refine x_iload_n rfl rfl ?_
  refine x_iconst 1 rfl (by decide) ?_
  refine x_isub rfl ?_
  refine x_iaload rfl ⟨sh110, Nat.le_of_ble_eq_true rfl⟩ h1 ?_
  refine x_bipush 45 rfl (by decide) ?_
  exact x_icmpeq rfl (rng_ld _ _ _) (by decide) kt kf
theorem uX12_reads_325 {d : Nat} {Q : Int → yM → Prop} {M : yM} {x1 : Int} {x2 : Int} {x3 : Int} {x4 : Int} {x5 : Int} {x6 : Int} {x7 : Int} (h1 : 0 ≤ (x1 - 1) ∧ (x1 - 1) < 80) (kt : (ld M 110 (x1 - 1)) ≠ 126 → XW kX12_reads d (some .boolean) (wQi Q) 354 [some (.inr (.inr 92)), some (.inl x1), some (.inl x2), some (.inl x3), some (.inl x4), some (.inl x5), some (.inl x6), some (.inl x7)] [] M) (kf : (ld M 110 (x1 - 1)) = 126 → XW kX12_reads d (some .boolean) (wQi Q) 338 [some (.inr (.inr 92)), some (.inl x1), some (.inl x2), some (.inl x3), some (.inl x4), some (.inl x5), some (.inl x6), some (.inl x7)] [] M) : XW kX12_reads d (some .boolean) (wQi Q) 325 [some (.inr (.inr 92)), some (.inl x1), some (.inl x2), some (.inl x3), some (.inl x4), some (.inl x5), some (.inl x6), some (.inl x7)] [] M := by
  refine x_aload_n rfl rfl ?_
  refine x_getR rfl sh92 rfl ?_
  refine x_iload_n rfl rfl ?_
  refine x_iconst 1 rfl (by decide) ?_
  refine x_isub rfl ?_
  refine x_iaload rfl ⟨sh110, Nat.le_of_ble_eq_true rfl⟩ h1 ?_
  refine x_bipush 126 rfl (by decide) ?_
  exact x_icmpne rfl (rng_ld _ _ _) (by decide) kt kf
theorem uX12_reads_338 {d : Nat} {Q : Int → yM → Prop} {M : yM} {x1 : Int} {x2 : Int} {x3 : Int} {x4 : Int} {x5 : Int} {x6 : Int} {x7 : Int} (h1 : 0 ≤ (x1 + (-1)) ∧ (x1 + (-1)) < 80) (k : XCv d 166 [.inr (.inr 92), .inl (ld M 110 (x1 + (-1)))] M (fun M' => XW kX12_reads (d + 1) (some .boolean) (wQi Q) 351 [some (.inr (.inr 92)), some (.inl (x1 + (-1))), some (.inl x2), some (.inl x3), some (.inl x4), some (.inl x5), some (.inl x6), some (.inl x7)] [] M')) : XW kX12_reads (d + 1) (some .boolean) (wQi Q) 338 [some (.inr (.inr 92)), some (.inl x1), some (.inl x2), some (.inl x3), some (.inl x4), some (.inl x5), some (.inl x6), some (.inl x7)] [] M := by
  refine x_iinc (-1) rfl (by decide) rfl rfl ?_
  refine x_aload_n rfl rfl ?_
  refine x_aload_n rfl rfl ?_
  refine x_getR rfl sh92 rfl ?_
  refine x_iload_n rfl rfl ?_
  refine x_iaload rfl ⟨sh110, Nat.le_of_ble_eq_true rfl⟩ h1 ?_
  exact x_callv (args := [.inr (.inr 92), .inl (ld M 110 (x1 + (-1)))]) rfl rfl rfl k
theorem uX12_reads_351 {d : Nat} {Q : Int → yM → Prop} {M : yM} {x1 : Int} {x2 : Int} {x3 : Int} {x4 : Int} {x5 : Int} {x6 : Int} {x7 : Int} (k : XW kX12_reads d (some .boolean) (wQi Q) 303 [some (.inr (.inr 92)), some (.inl x1), some (.inl x2), some (.inl x3), some (.inl x4), some (.inl x5), some (.inl x6), some (.inl x7)] [] M) : XW kX12_reads d (some .boolean) (wQi Q) 351 [some (.inr (.inr 92)), some (.inl x1), some (.inl x2), some (.inl x3), some (.inl x4), some (.inl x5), some (.inl x6), some (.inl x7)] [] M := by
  exact x_goto rfl k
theorem uX12_reads_354 {d : Nat} {Q : Int → yM → Prop} {M : yM} {x1 : Int} {x2 : Int} {x3 : Int} {x4 : Int} {x5 : Int} {x6 : Int} {x7 : Int} (k : XW kX12_reads d (some .boolean) (wQi Q) 17 [some (.inr (.inr 92)), some (.inl x1), some (.inl x2), some (.inl x3), some (.inl x4), some (.inl (x5 + 1)), some (.inl x6), some (.inl x7)] [] M) : XW kX12_reads d (some .boolean) (wQi Q) 354 [some (.inr (.inr 92)), some (.inl x1), some (.inl x2), some (.inl x3), some (.inl x4), some (.inl x5), some (.inl x6), some (.inl x7)] [] M := by
  refine x_iinc 1 rfl (by decide) rfl rfl ?_
  exact x_goto rfl k
theorem uX12_reads_360 {d : Nat} {Q : Int → yM → Prop} {M : yM} {x1 : Int} {x2 : Int} {x3 : Int} {x4 : Int} {x5 : Int} {wx6 : Option yV} {wx7 : Option yV} (k : ∀ M', M' = (put M 92 26 (ld M 92 21)) → XW kX12_reads d (some .boolean) (wQi Q) 368 [some (.inr (.inr 92)), some (.inl x1), some (.inl x2), some (.inl x3), some (.inl x4), some (.inl x5), wx6, wx7] [] M') : XW kX12_reads d (some .boolean) (wQi Q) 360 [some (.inr (.inr 92)), some (.inl x1), some (.inl x2), some (.inl x3), some (.inl x4), some (.inl x5), wx6, wx7] [] M := by
  refine x_aload_n rfl rfl ?_
  refine x_aload_n rfl rfl ?_
  refine x_getI rfl sh92 rfl ?_
  refine x_putI rfl rfl sh92 rfl ?_
  exact k _ rfl
theorem uX12_reads_368 {d : Nat} {Q : Int → yM → Prop} {M : yM} {x1 : Int} {x2 : Int} {x3 : Int} {x4 : Int} {x5 : Int} {wx6 : Option yV} {wx7 : Option yV} (h1 : -2147483648 ≤ x4 ∧ x4 < 2147483648) (kt : x4 ≠ 0 → XW kX12_reads d (some .boolean) (wQi Q) 377 [some (.inr (.inr 92)), some (.inl x1), some (.inl x2), some (.inl x3), some (.inl x4), some (.inl x5), wx6, wx7] [] M) (kf : x4 = 0 → XW kX12_reads d (some .boolean) (wQi Q) 373 [some (.inr (.inr 92)), some (.inl x1), some (.inl x2), some (.inl x3), some (.inl x4), some (.inl x5), wx6, wx7] [] M) : XW kX12_reads d (some .boolean) (wQi Q) 368 [some (.inr (.inr 92)), some (.inl x1), some (.inl x2), some (.inl x3), some (.inl x4), some (.inl x5), wx6, wx7] [] M := by
  refine x_iload rfl rfl ?_
  exact x_ifne rfl h1 kt kf
theorem uX12_reads_373 {d : Nat} {Q : Int → yM → Prop} {M : yM} {x1 : Int} {x2 : Int} {x3 : Int} {x4 : Int} {x5 : Int} {wx6 : Option yV} {wx7 : Option yV} (h1 : -2147483648 ≤ x2 ∧ x2 < 2147483648) (kt : x2 ≤ 0 → XW kX12_reads d (some .boolean) (wQi Q) 379 [some (.inr (.inr 92)), some (.inl x1), some (.inl x2), some (.inl x3), some (.inl x4), some (.inl x5), wx6, wx7] [] M) (kf : x2 > 0 → XW kX12_reads d (some .boolean) (wQi Q) 377 [some (.inr (.inr 92)), some (.inl x1), some (.inl x2), some (.inl x3), some (.inl x4), some (.inl x5), wx6, wx7] [] M) : XW kX12_reads d (some .boolean) (wQi Q) 373 [some (.inr (.inr 92)), some (.inl x1), some (.inl x2), some (.inl x3), some (.inl x4), some (.inl x5), wx6, wx7] [] M := by
  refine x_iload_n rfl rfl ?_
  exact x_ifle rfl h1 kt kf
theorem uX12_reads_377 {d : Nat} {Q : Int → yM → Prop} {M : yM} {x1 : Int} {x2 : Int} {x3 : Int} {x4 : Int} {x5 : Int} {wx6 : Option yV} {wx7 : Option yV} (k : Q 0 M) : XW kX12_reads d (some .boolean) (wQi Q) 377 [some (.inr (.inr 92)), some (.inl x1), some (.inl x2), some (.inl x3), some (.inl x4), some (.inl x5), wx6, wx7] [] M := by
  refine x_iconst 0 rfl (by decide) ?_
  exact x_zreturn rfl (by decide) k
theorem uX12_reads_379 {d : Nat} {Q : Int → yM → Prop} {M : yM} {x1 : Int} {x2 : Int} {x3 : Int} {x4 : Int} {x5 : Int} {wx6 : Option yV} {wx7 : Option yV} (h1 : -2147483648 ≤ x1 ∧ x1 < 2147483648) (kt : x1 ≤ 0 → XW kX12_reads d (some .boolean) (wQi Q) 399 [some (.inr (.inr 92)), some (.inl x1), some (.inl x2), some (.inl x3), some (.inl x4), some (.inl x5), wx6, wx7] [] M) (kf : x1 > 0 → XW kX12_reads d (some .boolean) (wQi Q) 383 [some (.inr (.inr 92)), some (.inl x1), some (.inl x2), some (.inl x3), some (.inl x4), some (.inl x5), wx6, wx7] [] M) : XW kX12_reads d (some .boolean) (wQi Q) 379 [some (.inr (.inr 92)), some (.inl x1), some (.inl x2), some (.inl x3), some (.inl x4), some (.inl x5), wx6, wx7] [] M := by
  refine x_iload_n rfl rfl ?_
  exact x_ifle rfl h1 kt kf
theorem uX12_reads_383 {d : Nat} {Q : Int → yM → Prop} {M : yM} {x1 : Int} {x2 : Int} {x3 : Int} {x4 : Int} {x5 : Int} {wx6 : Option yV} {wx7 : Option yV} (h1 : 0 ≤ (x1 + (-1)) ∧ (x1 + (-1)) < 80) (k : XCv d 166 [.inr (.inr 92), .inl (ld M 110 (x1 + (-1)))] M (fun M' => XW kX12_reads (d + 1) (some .boolean) (wQi Q) 396 [some (.inr (.inr 92)), some (.inl (x1 + (-1))), some (.inl x2), some (.inl x3), some (.inl x4), some (.inl x5), wx6, wx7] [] M')) : XW kX12_reads (d + 1) (some .boolean) (wQi Q) 383 [some (.inr (.inr 92)), some (.inl x1), some (.inl x2), some (.inl x3), some (.inl x4), some (.inl x5), wx6, wx7] [] M := by
  refine x_iinc (-1) rfl (by decide) rfl rfl ?_
  refine x_aload_n rfl rfl ?_
  refine x_aload_n rfl rfl ?_
  refine x_getR rfl sh92 rfl ?_
  refine x_iload_n rfl rfl ?_
  refine x_iaload rfl ⟨sh110, Nat.le_of_ble_eq_true rfl⟩ h1 ?_
  exact x_callv (args := [.inr (.inr 92), .inl (ld M 110 (x1 + (-1)))]) rfl rfl rfl k
theorem uX12_reads_396 {d : Nat} {Q : Int → yM → Prop} {M : yM} {x1 : Int} {x2 : Int} {x3 : Int} {x4 : Int} {x5 : Int} {wx6 : Option yV} {wx7 : Option yV} (k : XW kX12_reads d (some .boolean) (wQi Q) 379 [some (.inr (.inr 92)), some (.inl x1), some (.inl x2), some (.inl x3), some (.inl x4), some (.inl x5), wx6, wx7] [] M) : XW kX12_reads d (some .boolean) (wQi Q) 396 [some (.inr (.inr 92)), some (.inl x1), some (.inl x2), some (.inl x3), some (.inl x4), some (.inl x5), wx6, wx7] [] M := by
  exact x_goto rfl k
theorem uX12_reads_399 {d : Nat} {Q : Int → yM → Prop} {M : yM} {x1 : Int} {x2 : Int} {x3 : Int} {x4 : Int} {x5 : Int} {wx6 : Option yV} {wx7 : Option yV} (k : Q 1 M) : XW kX12_reads d (some .boolean) (wQi Q) 399 [some (.inr (.inr 92)), some (.inl x1), some (.inl x2), some (.inl x3), some (.inl x4), some (.inl x5), wx6, wx7] [] M := by
  refine x_iconst 1 rfl (by decide) ?_
  exact x_zreturn rfl (by decide) k
theorem eX12_isTerm {d : Nat} {Q : Int → yM → Prop} {M : yM} {x0 : Int}  (h : XW kX12_isTerm d (some .boolean) (wQi Q) 0 [some (.inl x0)] [] M) : XCi d 168 [.inl x0] M Q :=
  XC.ofW (Mm := (yX12_isTerm, cX12_isTerm, 1, (some .boolean), 0, kX12_isTerm)) rfl rfl rfl rfl h
theorem uX12_isTerm_0 {d : Nat} {Q : Int → yM → Prop} {M : yM} {x0 : Int} (k : XCi d 120 [.inl x0, .inl 0, .inl 3] M (fun v M' => XW kX12_isTerm (d + 1) (some .boolean) (wQi Q) 6 [some (.inl x0)] [.inl v] M')) : XW kX12_isTerm (d + 1) (some .boolean) (wQi Q) 0 [some (.inl x0)] [] M := by
  refine x_iload_n rfl rfl ?_
  refine x_iconst 0 rfl (by decide) ?_
  refine x_iconst 3 rfl (by decide) ?_
  exact x_calli (args := [.inl x0, .inl 0, .inl 3]) rfl rfl rfl k
theorem uX12_isTerm_6 {d : Nat} {Q : Int → yM → Prop} {M : yM} {x0 : Int} {s0 : Int} (h1 : s0 = 0 ∨ s0 = 1) (k : Q s0 M) : XW kX12_isTerm d (some .boolean) (wQi Q) 6 [some (.inl x0)] [.inl s0] M := by
  exact x_zreturn rfl h1 k
theorem eX12_read {d : Nat} {Q : Int → yM → Prop} {M : yM} {x1 : Int}  (h : XW kX12_read d (some .int) (wQi Q) 0 [some (.inr (.inr 92)), some (.inl x1), none] [] M) : XCi d 169 [.inr (.inr 92), .inl x1] M Q :=
  XC.ofW (Mm := (yX12_read, cX12_read, 3, (some .int), 13, kX12_read)) rfl (rcv_ok sh92) rfl rfl h
theorem uX12_read_0 {d : Nat} {Q : Int → yM → Prop} {M : yM} {x1 : Int} (k : ∀ M', M' = (put M 92 0 0) → XW kX12_read d (some .int) (wQi Q) 5 [some (.inr (.inr 92)), some (.inl x1), none] [] M') : XW kX12_read d (some .int) (wQi Q) 0 [some (.inr (.inr 92)), some (.inl x1), none] [] M := by
  refine x_aload_n rfl rfl ?_
  refine x_iconst 0 rfl (by decide) ?_
  refine x_putI rfl rfl sh92 rfl ?_
  exact k _ rfl
theorem uX12_read_5 {d : Nat} {Q : Int → yM → Prop} {M : yM} {x1 : Int} (k : XCi d 168 [.inl x1] M (fun v M' => XW kX12_read (d + 1) (some .int) (wQi Q) 9 [some (.inr (.inr 92)), some (.inl x1), none] [.inl v] M')) : XW kX12_read (d + 1) (some .int) (wQi Q) 5 [some (.inr (.inr 92)), some (.inl x1), none] [] M := by
  refine x_iload_n rfl rfl ?_
  exact x_calli (args := [.inl x1]) rfl rfl rfl k
theorem uX12_read_9 {d : Nat} {Q : Int → yM → Prop} {M : yM} {x1 : Int} {s0 : Int} (h1 : -2147483648 ≤ s0 ∧ s0 < 2147483648) (kt : s0 ≠ 0 → XW kX12_read d (some .int) (wQi Q) 14 [some (.inr (.inr 92)), some (.inl x1), none] [] M) (kf : s0 = 0 → XW kX12_read d (some .int) (wQi Q) 12 [some (.inr (.inr 92)), some (.inl x1), none] [] M) : XW kX12_read d (some .int) (wQi Q) 9 [some (.inr (.inr 92)), some (.inl x1), none] [.inl s0] M := by
  exact x_ifne rfl h1 kt kf
theorem uX12_read_12 {d : Nat} {Q : Int → yM → Prop} {M : yM} {x1 : Int} (k : Q (-1) M) : XW kX12_read d (some .int) (wQi Q) 12 [some (.inr (.inr 92)), some (.inl x1), none] [] M := by
  refine x_iconst (-1) rfl (by decide) ?_
  exact x_ireturn rfl k
theorem uX12_read_14 {d : Nat} {Q : Int → yM → Prop} {M : yM} {x1 : Int} (k : XCi d 167 [.inr (.inr 92)] M (fun v M' => XW kX12_read (d + 1) (some .int) (wQi Q) 18 [some (.inr (.inr 92)), some (.inl x1), none] [.inl v] M')) : XW kX12_read (d + 1) (some .int) (wQi Q) 14 [some (.inr (.inr 92)), some (.inl x1), none] [] M := by
  refine x_aload_n rfl rfl ?_
  exact x_calli (args := [.inr (.inr 92)]) rfl rfl rfl k
theorem uX12_read_18 {d : Nat} {Q : Int → yM → Prop} {M : yM} {x1 : Int} {s0 : Int} (h1 : -2147483648 ≤ s0 ∧ s0 < 2147483648) (kt : s0 ≠ 0 → XW kX12_read d (some .int) (wQi Q) 29 [some (.inr (.inr 92)), some (.inl x1), none] [] M) (kf : s0 = 0 → XW kX12_read d (some .int) (wQi Q) 21 [some (.inr (.inr 92)), some (.inl x1), none] [] M) : XW kX12_read d (some .int) (wQi Q) 18 [some (.inr (.inr 92)), some (.inl x1), none] [.inl s0] M := by
  exact x_ifne rfl h1 kt kf
theorem uX12_read_21 {d : Nat} {Q : Int → yM → Prop} {M : yM} {x1 : Int} (k : Q ((-10) - (ld M 92 26)) M) : XW kX12_read d (some .int) (wQi Q) 21 [some (.inr (.inr 92)), some (.inl x1), none] [] M := by
  refine x_bipush (-10) rfl (by decide) ?_
  refine x_aload_n rfl rfl ?_
  refine x_getI rfl sh92 rfl ?_
  refine x_isub rfl ?_
  exact x_ireturn rfl k
theorem uX12_read_29 {d : Nat} {Q : Int → yM → Prop} {M : yM} {x1 : Int} (k : XW kX12_read d (some .int) (wQi Q) 31 [some (.inr (.inr 92)), some (.inl x1), some (.inl 0)] [] M) : XW kX12_read d (some .int) (wQi Q) 29 [some (.inr (.inr 92)), some (.inl x1), none] [] M := by
  refine x_iconst 0 rfl (by decide) ?_
  refine x_istore_n rfl (Nat.le_of_ble_eq_true rfl) rfl ?_
  exact k
theorem uX12_read_31 {d : Nat} {Q : Int → yM → Prop} {M : yM} {x1 : Int} {x2 : Int} (h1 : -2147483648 ≤ x2 ∧ x2 < 2147483648) (kt : x2 ≥ (ld M 92 25) → XW kX12_read d (some .int) (wQi Q) 62 [some (.inr (.inr 92)), some (.inl x1), some (.inl x2)] [] M) (kf : x2 < (ld M 92 25) → XW kX12_read d (some .int) (wQi Q) 39 [some (.inr (.inr 92)), some (.inl x1), some (.inl x2)] [] M) : XW kX12_read d (some .int) (wQi Q) 31 [some (.inr (.inr 92)), some (.inl x1), some (.inl x2)] [] M := by
  refine x_iload_n rfl rfl ?_
  refine x_aload_n rfl rfl ?_
  refine x_getI rfl sh92 rfl ?_
  exact x_icmpge rfl h1 (rng_ld _ _ _) kt kf
theorem uX12_read_39 {d : Nat} {Q : Int → yM → Prop} {M : yM} {x1 : Int} {x2 : Int} (h1 : 0 ≤ x2 ∧ x2 < 60) (h2 : 0 ≤ ((60 * x1) + x2) ∧ ((60 * x1) + x2) < 240) (k : ∀ M', M' = (put M 107 ((60 * x1) + x2) (ld M 109 x2)) → XW kX12_read d (some .int) (wQi Q) 56 [some (.inr (.inr 92)), some (.inl x1), some (.inl x2)] [] M') : XW kX12_read d (some .int) (wQi Q) 39 [some (.inr (.inr 92)), some (.inl x1), some (.inl x2)] [] M := by
  refine x_aload_n rfl rfl ?_
  refine x_getR rfl sh92 rfl ?_
  refine x_bipush 60 rfl (by decide) ?_
  refine x_iload_n rfl rfl ?_
  refine x_imul rfl ?_
  refine x_iload_n rfl rfl ?_
  refine x_iadd rfl ?_
  refine x_aload_n rfl rfl ?_
  refine x_getR rfl sh92 rfl ?_
  refine x_iload_n rfl rfl ?_
  refine x_iaload rfl ⟨sh109, Nat.le_of_ble_eq_true rfl⟩ h1 ?_
  refine x_iastore rfl ⟨sh107, Nat.le_of_ble_eq_true rfl⟩ h2  ?_
  exact k _ rfl
theorem uX12_read_56 {d : Nat} {Q : Int → yM → Prop} {M : yM} {x1 : Int} {x2 : Int} (k : XW kX12_read d (some .int) (wQi Q) 31 [some (.inr (.inr 92)), some (.inl x1), some (.inl (x2 + 1))] [] M) : XW kX12_read d (some .int) (wQi Q) 56 [some (.inr (.inr 92)), some (.inl x1), some (.inl x2)] [] M := by
  refine x_iinc 1 rfl (by decide) rfl rfl ?_
  exact x_goto rfl k
theorem uX12_read_62 {d : Nat} {Q : Int → yM → Prop} {M : yM} {x1 : Int} {x2 : Int} (h1 : 0 ≤ x1 ∧ x1 < 4) (k : ∀ M', M' = (put M 108 x1 (ld M 92 25)) → XW kX12_read d (some .int) (wQi Q) 72 [some (.inr (.inr 92)), some (.inl x1), some (.inl x2)] [] M') : XW kX12_read d (some .int) (wQi Q) 62 [some (.inr (.inr 92)), some (.inl x1), some (.inl x2)] [] M := by
  refine x_aload_n rfl rfl ?_
  refine x_getR rfl sh92 rfl ?_
  refine x_iload_n rfl rfl ?_
  refine x_aload_n rfl rfl ?_
  refine x_getI rfl sh92 rfl ?_
  refine x_iastore rfl ⟨sh108, Nat.le_of_ble_eq_true rfl⟩ h1  ?_
  exact k _ rfl
theorem uX12_read_72 {d : Nat} {Q : Int → yM → Prop} {M : yM} {x1 : Int} {x2 : Int} (k : ∀ M', M' = (put M 92 21 0) → XW kX12_read d (some .int) (wQi Q) 77 [some (.inr (.inr 92)), some (.inl x1), some (.inl x2)] [] M') : XW kX12_read d (some .int) (wQi Q) 72 [some (.inr (.inr 92)), some (.inl x1), some (.inl x2)] [] M := by
  refine x_aload_n rfl rfl ?_
  refine x_iconst 0 rfl (by decide) ?_
  refine x_putI rfl rfl sh92 rfl ?_
  exact k _ rfl
theorem uX12_read_77 {d : Nat} {Q : Int → yM → Prop} {M : yM} {x1 : Int} {x2 : Int} (k : Q 1 M) : XW kX12_read d (some .int) (wQi Q) 77 [some (.inr (.inr 92)), some (.inl x1), some (.inl x2)] [] M := by
  refine x_iconst 1 rfl (by decide) ?_
  exact x_ireturn rfl k
theorem eX12_valueOf {d : Nat} {Q : Int → yM → Prop} {M : yM} {x1 : Int} {x2 : Int} {x3 : Int} {x4 : Int}  (h : XW kX12_valueOf d (some .int) (wQi Q) 0 [some (.inr (.inr 92)), some (.inl x1), some (.inl x2), some (.inl x3), some (.inl x4), none, none, none, none, none] [] M) : XCi d 170 [.inr (.inr 92), .inl x1, .inl x2, .inl x3, .inl x4] M Q :=
  XC.ofW (Mm := (yX12_valueOf, cX12_valueOf, 10, (some .int), 13, kX12_valueOf)) rfl (rcv_ok sh92) rfl rfl h
theorem uX12_valueOf_0 {d : Nat} {Q : Int → yM → Prop} {M : yM} {x1 : Int} {x2 : Int} {x3 : Int} {x4 : Int} (k : XW kX12_valueOf d (some .int) (wQi Q) 6 [some (.inr (.inr 92)), some (.inl x1), some (.inl x2), some (.inl x3), some (.inl x4), some (.inl 0), some (.inl 0), none, none, none] [] M) : XW kX12_valueOf d (some .int) (wQi Q) 0 [some (.inr (.inr 92)), some (.inl x1), some (.inl x2), some (.inl x3), some (.inl x4), none, none, none, none, none] [] M := by
  refine x_iconst 0 rfl (by decide) ?_
  refine x_istore rfl (Nat.le_of_ble_eq_true rfl) rfl ?_
  refine x_iconst 0 rfl (by decide) ?_
  refine x_istore rfl (Nat.le_of_ble_eq_true rfl) rfl ?_
  exact k
theorem uX12_valueOf_6 {d : Nat} {Q : Int → yM → Prop} {M : yM} {x1 : Int} {x2 : Int} {x3 : Int} {x4 : Int} {x5 : Int} {x6 : Int} {wx7 : Option yV} {wx8 : Option yV} {wx9 : Option yV} (h1 : 0 ≤ x1 ∧ x1 < 4) (h2 : -2147483648 ≤ x6 ∧ x6 < 2147483648) (kt : x6 ≥ (ld M 108 x1) → XW kX12_valueOf d (some .int) (wQi Q) 256 [some (.inr (.inr 92)), some (.inl x1), some (.inl x2), some (.inl x3), some (.inl x4), some (.inl x5), some (.inl x6), wx7, wx8, wx9] [] M) (kf : x6 < (ld M 108 x1) → XW kX12_valueOf d (some .int) (wQi Q) 17 [some (.inr (.inr 92)), some (.inl x1), some (.inl x2), some (.inl x3), some (.inl x4), some (.inl x5), some (.inl x6), wx7, wx8, wx9] [] M) : XW kX12_valueOf d (some .int) (wQi Q) 6 [some (.inr (.inr 92)), some (.inl x1), some (.inl x2), some (.inl x3), some (.inl x4), some (.inl x5), some (.inl x6), wx7, wx8, wx9] [] M := by
  refine x_iload rfl rfl ?_
  refine x_aload_n rfl rfl ?_
  refine x_getR rfl sh92 rfl ?_
  refine x_iload_n rfl rfl ?_
  refine x_iaload rfl ⟨sh108, Nat.le_of_ble_eq_true rfl⟩ h1 ?_
  exact x_icmpge rfl h2 (rng_ld _ _ _) kt kf
theorem uX12_valueOf_17 {d : Nat} {Q : Int → yM → Prop} {M : yM} {x1 : Int} {x2 : Int} {x3 : Int} {x4 : Int} {x5 : Int} {x6 : Int} {wx7 : Option yV} {wx8 : Option yV} {wx9 : Option yV} (h1 : 0 ≤ ((60 * x1) + x6) ∧ ((60 * x1) + x6) < 240) (k : XCi d 165 [.inl (ld M 107 ((60 * x1) + x6))] M (fun v M' => XW kX12_valueOf (d + 1) (some .int) (wQi Q) 36 [some (.inr (.inr 92)), some (.inl x1), some (.inl x2), some (.inl x3), some (.inl x4), some (.inl x5), some (.inl x6), some (.inl (ld M 107 ((60 * x1) + x6))), wx8, wx9] [.inl v] M')) : XW kX12_valueOf (d + 1) (some .int) (wQi Q) 17 [some (.inr (.inr 92)), some (.inl x1), some (.inl x2), some (.inl x3), some (.inl x4), some (.inl x5), some (.inl x6), wx7, wx8, wx9] [] M := by
  refine x_aload_n rfl rfl ?_
  refine x_getR rfl sh92 rfl ?_
  refine x_bipush 60 rfl (by decide) ?_
  refine x_iload_n rfl rfl ?_
  refine x_imul rfl ?_
  refine x_iload rfl rfl ?_
  refine x_iadd rfl ?_
  refine x_iaload rfl ⟨sh107, Nat.le_of_ble_eq_true rfl⟩ h1 ?_
  refine x_istore rfl (Nat.le_of_ble_eq_true rfl) rfl ?_
  refine x_iload rfl rfl ?_
  exact x_calli (args := [.inl (ld M 107 ((60 * x1) + x6))]) rfl rfl rfl k
theorem uX12_valueOf_36 {d : Nat} {Q : Int → yM → Prop} {M : yM} {x1 : Int} {x2 : Int} {x3 : Int} {x4 : Int} {x5 : Int} {x6 : Int} {x7 : Int} {wx8 : Option yV} {wx9 : Option yV} {s0 : Int} (h1 : -2147483648 ≤ s0 ∧ s0 < 2147483648) (kt : s0 ≤ 0 → XW kX12_valueOf d (some .int) (wQi Q) 112 [some (.inr (.inr 92)), some (.inl x1), some (.inl x2), some (.inl x3), some (.inl x4), some (.inl x5), some (.inl x6), some (.inl x7), wx8, wx9] [] M) (kf : s0 > 0 → XW kX12_valueOf d (some .int) (wQi Q) 39 [some (.inr (.inr 92)), some (.inl x1), some (.inl x2), some (.inl x3), some (.inl x4), some (.inl x5), some (.inl x6), some (.inl x7), wx8, wx9] [] M) : XW kX12_valueOf d (some .int) (wQi Q) 36 [some (.inr (.inr 92)), some (.inl x1), some (.inl x2), some (.inl x3), some (.inl x4), some (.inl x5), some (.inl x6), some (.inl x7), wx8, wx9] [.inl s0] M := by
  exact x_ifle rfl h1 kt kf
theorem uX12_valueOf_39 {d : Nat} {Q : Int → yM → Prop} {M : yM} {x1 : Int} {x2 : Int} {x3 : Int} {x4 : Int} {x5 : Int} {x6 : Int} {x7 : Int} {wx8 : Option yV} {wx9 : Option yV} (h1 : 0 ≤ ((x5 + (-1)) - 1) ∧ ((x5 + (-1)) - 1) < 80) (h2 : 0 ≤ (x5 + (-1)) ∧ (x5 + (-1)) < 80) (h3 : -2147483648 ≤ x7 ∧ x7 < 2147483648) (kt : x7 ≠ 43 → XW kX12_valueOf d (some .int) (wQi Q) 85 [some (.inr (.inr 92)), some (.inl x1), some (.inl x2), some (.inl x3), some (.inl x4), some (.inl (x5 + (-1))), some (.inl x6), some (.inl x7), some (.inl (ld M 111 ((x5 + (-1)) - 1))), some (.inl (ld M 111 (x5 + (-1))))] [.inl ((x5 + (-1)) - 1), .inr (.inr 111)] M) (kf : x7 = 43 → XW kX12_valueOf d (some .int) (wQi Q) 77 [some (.inr (.inr 92)), some (.inl x1), some (.inl x2), some (.inl x3), some (.inl x4), some (.inl (x5 + (-1))), some (.inl x6), some (.inl x7), some (.inl (ld M 111 ((x5 + (-1)) - 1))), some (.inl (ld M 111 (x5 + (-1))))] [.inl ((x5 + (-1)) - 1), .inr (.inr 111)] M) : XW kX12_valueOf d (some .int) (wQi Q) 39 [some (.inr (.inr 92)), some (.inl x1), some (.inl x2), some (.inl x3), some (.inl x4), some (.inl x5), some (.inl x6), some (.inl x7), wx8, wx9] [] M := by
  refine x_iinc (-1) rfl (by decide) rfl rfl ?_
  refine x_aload_n rfl rfl ?_
  refine x_getR rfl sh92 rfl ?_
  refine x_iload rfl rfl ?_
  refine x_iconst 1 rfl (by decide) ?_
  refine x_isub rfl ?_
  refine x_iaload rfl ⟨sh111, Nat.le_of_ble_eq_true rfl⟩ h1 ?_
  refine x_istore rfl (Nat.le_of_ble_eq_true rfl) rfl ?_
  refine x_aload_n rfl rfl ?_
  refine x_getR rfl sh92 rfl ?_
  refine x_iload rfl rfl ?_
  refine x_iaload rfl ⟨sh111, Nat.le_of_ble_eq_true rfl⟩ h2 ?_
  refine x_istore rfl (Nat.le_of_ble_eq_true rfl) rfl ?_
  refine x_aload_n rfl rfl ?_
  refine x_getR rfl sh92 rfl ?_
  refine x_iload rfl rfl ?_
  refine x_iconst 1 rfl (by decide) ?_
  refine x_isub rfl ?_
  refine x_iload rfl rfl ?_
  refine x_bipush 43 rfl (by decide) ?_
  exact x_icmpne rfl h3 (by decide) kt kf
theorem uX12_valueOf_77 {d : Nat} {Q : Int → yM → Prop} {M : yM} {x1 : Int} {x2 : Int} {x3 : Int} {x4 : Int} {x5 : Int} {x6 : Int} {x7 : Int} {x8 : Int} {x9 : Int} {s0 : Int} (k : XW kX12_valueOf d (some .int) (wQi Q) 108 [some (.inr (.inr 92)), some (.inl x1), some (.inl x2), some (.inl x3), some (.inl x4), some (.inl x5), some (.inl x6), some (.inl x7), some (.inl x8), some (.inl x9)] [.inl (yor x8 x9), .inl s0, .inr (.inr 111)] M) : XW kX12_valueOf d (some .int) (wQi Q) 77 [some (.inr (.inr 92)), some (.inl x1), some (.inl x2), some (.inl x3), some (.inl x4), some (.inl x5), some (.inl x6), some (.inl x7), some (.inl x8), some (.inl x9)] [.inl s0, .inr (.inr 111)] M := by
  refine x_iload rfl rfl ?_
  refine x_iload rfl rfl ?_
  refine x_ior rfl ?_
  exact x_goto rfl k
theorem uX12_valueOf_85 {d : Nat} {Q : Int → yM → Prop} {M : yM} {x1 : Int} {x2 : Int} {x3 : Int} {x4 : Int} {x5 : Int} {x6 : Int} {x7 : Int} {x8 : Int} {x9 : Int} {s0 : Int} (h1 : -2147483648 ≤ x7 ∧ x7 < 2147483648) (kt : x7 ≠ 38 → XW kX12_valueOf d (some .int) (wQi Q) 100 [some (.inr (.inr 92)), some (.inl x1), some (.inl x2), some (.inl x3), some (.inl x4), some (.inl x5), some (.inl x6), some (.inl x7), some (.inl x8), some (.inl x9)] [.inl s0, .inr (.inr 111)] M) (kf : x7 = 38 → XW kX12_valueOf d (some .int) (wQi Q) 92 [some (.inr (.inr 92)), some (.inl x1), some (.inl x2), some (.inl x3), some (.inl x4), some (.inl x5), some (.inl x6), some (.inl x7), some (.inl x8), some (.inl x9)] [.inl s0, .inr (.inr 111)] M) : XW kX12_valueOf d (some .int) (wQi Q) 85 [some (.inr (.inr 92)), some (.inl x1), some (.inl x2), some (.inl x3), some (.inl x4), some (.inl x5), some (.inl x6), some (.inl x7), some (.inl x8), some (.inl x9)] [.inl s0, .inr (.inr 111)] M := by
  refine x_iload rfl rfl ?_
  refine x_bipush 38 rfl (by decide) ?_
  exact x_icmpne rfl h1 (by decide) kt kf
theorem uX12_valueOf_92 {d : Nat} {Q : Int → yM → Prop} {M : yM} {x1 : Int} {x2 : Int} {x3 : Int} {x4 : Int} {x5 : Int} {x6 : Int} {x7 : Int} {x8 : Int} {x9 : Int} {s0 : Int} (k : XW kX12_valueOf d (some .int) (wQi Q) 108 [some (.inr (.inr 92)), some (.inl x1), some (.inl x2), some (.inl x3), some (.inl x4), some (.inl x5), some (.inl x6), some (.inl x7), some (.inl x8), some (.inl x9)] [.inl (yand x8 x9), .inl s0, .inr (.inr 111)] M) : XW kX12_valueOf d (some .int) (wQi Q) 92 [some (.inr (.inr 92)), some (.inl x1), some (.inl x2), some (.inl x3), some (.inl x4), some (.inl x5), some (.inl x6), some (.inl x7), some (.inl x8), some (.inl x9)] [.inl s0, .inr (.inr 111)] M := by
  refine x_iload rfl rfl ?_
  refine x_iload rfl rfl ?_
  refine x_iand rfl ?_
  exact x_goto rfl k
theorem uX12_valueOf_100 {d : Nat} {Q : Int → yM → Prop} {M : yM} {x1 : Int} {x2 : Int} {x3 : Int} {x4 : Int} {x5 : Int} {x6 : Int} {x7 : Int} {x8 : Int} {x9 : Int} {s0 : Int} (k : XCi d 134 [.inr (.inr 92), .inl x8, .inl x9] M (fun v M' => XW kX12_valueOf (d + 1) (some .int) (wQi Q) 108 [some (.inr (.inr 92)), some (.inl x1), some (.inl x2), some (.inl x3), some (.inl x4), some (.inl x5), some (.inl x6), some (.inl x7), some (.inl x8), some (.inl x9)] [.inl v, .inl s0, .inr (.inr 111)] M')) : XW kX12_valueOf (d + 1) (some .int) (wQi Q) 100 [some (.inr (.inr 92)), some (.inl x1), some (.inl x2), some (.inl x3), some (.inl x4), some (.inl x5), some (.inl x6), some (.inl x7), some (.inl x8), some (.inl x9)] [.inl s0, .inr (.inr 111)] M := by
  refine x_aload_n rfl rfl ?_
  refine x_iload rfl rfl ?_
  refine x_iload rfl rfl ?_
  exact x_calli (args := [.inr (.inr 92), .inl x8, .inl x9]) rfl rfl rfl k
theorem uX12_valueOf_108 {d : Nat} {Q : Int → yM → Prop} {M : yM} {x1 : Int} {x2 : Int} {x3 : Int} {x4 : Int} {x5 : Int} {x6 : Int} {x7 : Int} {x8 : Int} {x9 : Int} {s0 : Int} {s1 : Int} (h1 : 0 ≤ s1 ∧ s1 < 80) (k : ∀ M', M' = (put M 111 s1 s0) → XW kX12_valueOf d (some .int) (wQi Q) 109 [some (.inr (.inr 92)), some (.inl x1), some (.inl x2), some (.inl x3), some (.inl x4), some (.inl x5), some (.inl x6), some (.inl x7), some (.inl x8), some (.inl x9)] [] M') : XW kX12_valueOf d (some .int) (wQi Q) 108 [some (.inr (.inr 92)), some (.inl x1), some (.inl x2), some (.inl x3), some (.inl x4), some (.inl x5), some (.inl x6), some (.inl x7), some (.inl x8), some (.inl x9)] [.inl s0, .inl s1, .inr (.inr 111)] M := by
  refine x_iastore rfl ⟨sh111, Nat.le_of_ble_eq_true rfl⟩ h1  ?_
  exact k _ rfl
theorem uX12_valueOf_109 {d : Nat} {Q : Int → yM → Prop} {M : yM} {x1 : Int} {x2 : Int} {x3 : Int} {x4 : Int} {x5 : Int} {x6 : Int} {x7 : Int} {x8 : Int} {x9 : Int} (k : XW kX12_valueOf d (some .int) (wQi Q) 250 [some (.inr (.inr 92)), some (.inl x1), some (.inl x2), some (.inl x3), some (.inl x4), some (.inl x5), some (.inl x6), some (.inl x7), some (.inl x8), some (.inl x9)] [] M) : XW kX12_valueOf d (some .int) (wQi Q) 109 [some (.inr (.inr 92)), some (.inl x1), some (.inl x2), some (.inl x3), some (.inl x4), some (.inl x5), some (.inl x6), some (.inl x7), some (.inl x8), some (.inl x9)] [] M := by
  exact x_goto rfl k
theorem uX12_valueOf_112 {d : Nat} {Q : Int → yM → Prop} {M : yM} {x1 : Int} {x2 : Int} {x3 : Int} {x4 : Int} {x5 : Int} {x6 : Int} {x7 : Int} {wx8 : Option yV} {wx9 : Option yV} (h1 : -2147483648 ≤ x7 ∧ x7 < 2147483648) (kt : x7 = 45 → XW kX12_valueOf d (some .int) (wQi Q) 126 [some (.inr (.inr 92)), some (.inl x1), some (.inl x2), some (.inl x3), some (.inl x4), some (.inl x5), some (.inl x6), some (.inl x7), wx8, wx9] [] M) (kf : x7 ≠ 45 → XW kX12_valueOf d (some .int) (wQi Q) 119 [some (.inr (.inr 92)), some (.inl x1), some (.inl x2), some (.inl x3), some (.inl x4), some (.inl x5), some (.inl x6), some (.inl x7), wx8, wx9] [] M) : XW kX12_valueOf d (some .int) (wQi Q) 112 [some (.inr (.inr 92)), some (.inl x1), some (.inl x2), some (.inl x3), some (.inl x4), some (.inl x5), some (.inl x6), some (.inl x7), wx8, wx9] [] M := by
  refine x_iload rfl rfl ?_
  refine x_bipush 45 rfl (by decide) ?_
  exact x_icmpeq rfl h1 (by decide) kt kf
theorem uX12_valueOf_119 {d : Nat} {Q : Int → yM → Prop} {M : yM} {x1 : Int} {x2 : Int} {x3 : Int} {x4 : Int} {x5 : Int} {x6 : Int} {x7 : Int} {wx8 : Option yV} {wx9 : Option yV} (h1 : -2147483648 ≤ x7 ∧ x7 < 2147483648) (kt : x7 ≠ 126 → XW kX12_valueOf d (some .int) (wQi Q) 174 [some (.inr (.inr 92)), some (.inl x1), some (.inl x2), some (.inl x3), some (.inl x4), some (.inl x5), some (.inl x6), some (.inl x7), wx8, wx9] [] M) (kf : x7 = 126 → XW kX12_valueOf d (some .int) (wQi Q) 126 [some (.inr (.inr 92)), some (.inl x1), some (.inl x2), some (.inl x3), some (.inl x4), some (.inl x5), some (.inl x6), some (.inl x7), wx8, wx9] [] M) : XW kX12_valueOf d (some .int) (wQi Q) 119 [some (.inr (.inr 92)), some (.inl x1), some (.inl x2), some (.inl x3), some (.inl x4), some (.inl x5), some (.inl x6), some (.inl x7), wx8, wx9] [] M := by
  refine x_iload rfl rfl ?_
  refine x_bipush 126 rfl (by decide) ?_
  exact x_icmpne rfl h1 (by decide) kt kf
theorem uX12_valueOf_126 {d : Nat} {Q : Int → yM → Prop} {M : yM} {x1 : Int} {x2 : Int} {x3 : Int} {x4 : Int} {x5 : Int} {x6 : Int} {x7 : Int} {wx8 : Option yV} {wx9 : Option yV} (h1 : 0 ≤ (x5 - 1) ∧ (x5 - 1) < 80) (h2 : -2147483648 ≤ x7 ∧ x7 < 2147483648) (kt : x7 ≠ 45 → XW kX12_valueOf d (some .int) (wQi Q) 164 [some (.inr (.inr 92)), some (.inl x1), some (.inl x2), some (.inl x3), some (.inl x4), some (.inl x5), some (.inl x6), some (.inl x7), some (.inl (ld M 111 (x5 - 1))), wx9] [.inl (x5 - 1), .inr (.inr 111)] M) (kf : x7 = 45 → XW kX12_valueOf d (some .int) (wQi Q) 152 [some (.inr (.inr 92)), some (.inl x1), some (.inl x2), some (.inl x3), some (.inl x4), some (.inl x5), some (.inl x6), some (.inl x7), some (.inl (ld M 111 (x5 - 1))), wx9] [.inl (x5 - 1), .inr (.inr 111)] M) : XW kX12_valueOf d (some .int) (wQi Q) 126 [some (.inr (.inr 92)), some (.inl x1), some (.inl x2), some (.inl x3), some (.inl x4), some (.inl x5), some (.inl x6), some (.inl x7), wx8, wx9] [] M := by
  refine x_aload_n rfl rfl ?_
  refine x_getR rfl sh92 rfl ?_
  refine x_iload rfl rfl ?_
  refine x_iconst 1 rfl (by decide) ?_
  refine x_isub rfl ?_
  refine x_iaload rfl ⟨sh111, Nat.le_of_ble_eq_true rfl⟩ h1 ?_
  refine x_istore rfl (Nat.le_of_ble_eq_true rfl) rfl ?_
  refine x_aload_n rfl rfl ?_
  refine x_getR rfl sh92 rfl ?_
  refine x_iload rfl rfl ?_
  refine x_iconst 1 rfl (by decide) ?_
  refine x_isub rfl ?_
  refine x_iload rfl rfl ?_
  refine x_bipush 45 rfl (by decide) ?_
  exact x_icmpne rfl h2 (by decide) kt kf
theorem uX12_valueOf_152 {d : Nat} {Q : Int → yM → Prop} {M : yM} {x1 : Int} {x2 : Int} {x3 : Int} {x4 : Int} {x5 : Int} {x6 : Int} {x7 : Int} {x8 : Int} {wx9 : Option yV} {s0 : Int} (k : XCi d 121 [.inr (.inr 92)] M (fun v M' => XW kX12_valueOf (d + 1) (some .int) (wQi Q) 156 [some (.inr (.inr 92)), some (.inl x1), some (.inl x2), some (.inl x3), some (.inl x4), some (.inl x5), some (.inl x6), some (.inl x7), some (.inl x8), wx9] [.inl v, .inl s0, .inr (.inr 111)] M')) : XW kX12_valueOf (d + 1) (some .int) (wQi Q) 152 [some (.inr (.inr 92)), some (.inl x1), some (.inl x2), some (.inl x3), some (.inl x4), some (.inl x5), some (.inl x6), some (.inl x7), some (.inl x8), wx9] [.inl s0, .inr (.inr 111)] M := by
  refine x_aload_n rfl rfl ?_
  exact x_calli (args := [.inr (.inr 92)]) rfl rfl rfl k
theorem uX12_valueOf_156 {d : Nat} {Q : Int → yM → Prop} {M : yM} {x1 : Int} {x2 : Int} {x3 : Int} {x4 : Int} {x5 : Int} {x6 : Int} {x7 : Int} {x8 : Int} {wx9 : Option yV} {s0 : Int} {s1 : Int} (k : XW kX12_valueOf d (some .int) (wQi Q) 170 [some (.inr (.inr 92)), some (.inl x1), some (.inl x2), some (.inl x3), some (.inl x4), some (.inl x5), some (.inl x6), some (.inl x7), some (.inl x8), wx9] [.inl (yand s0 (yxor x8 (-1))), .inl s1, .inr (.inr 111)] M) : XW kX12_valueOf d (some .int) (wQi Q) 156 [some (.inr (.inr 92)), some (.inl x1), some (.inl x2), some (.inl x3), some (.inl x4), some (.inl x5), some (.inl x6), some (.inl x7), some (.inl x8), wx9] [.inl s0, .inl s1, .inr (.inr 111)] M := by
  refine x_iload rfl rfl ?_
  refine x_iconst (-1) rfl (by decide) ?_
  refine x_ixor rfl ?_
  refine x_iand rfl ?_
  exact x_goto rfl k
theorem uX12_valueOf_164 {d : Nat} {Q : Int → yM → Prop} {M : yM} {x1 : Int} {x2 : Int} {x3 : Int} {x4 : Int} {x5 : Int} {x6 : Int} {x7 : Int} {x8 : Int} {wx9 : Option yV} {s0 : Int} (k : XCi d 136 [.inr (.inr 92), .inl x8] M (fun v M' => XW kX12_valueOf (d + 1) (some .int) (wQi Q) 170 [some (.inr (.inr 92)), some (.inl x1), some (.inl x2), some (.inl x3), some (.inl x4), some (.inl x5), some (.inl x6), some (.inl x7), some (.inl x8), wx9] [.inl v, .inl s0, .inr (.inr 111)] M')) : XW kX12_valueOf (d + 1) (some .int) (wQi Q) 164 [some (.inr (.inr 92)), some (.inl x1), some (.inl x2), some (.inl x3), some (.inl x4), some (.inl x5), some (.inl x6), some (.inl x7), some (.inl x8), wx9] [.inl s0, .inr (.inr 111)] M := by
  refine x_aload_n rfl rfl ?_
  refine x_iload rfl rfl ?_
  exact x_calli (args := [.inr (.inr 92), .inl x8]) rfl rfl rfl k
theorem uX12_valueOf_170 {d : Nat} {Q : Int → yM → Prop} {M : yM} {x1 : Int} {x2 : Int} {x3 : Int} {x4 : Int} {x5 : Int} {x6 : Int} {x7 : Int} {x8 : Int} {wx9 : Option yV} {s0 : Int} {s1 : Int} (h1 : 0 ≤ s1 ∧ s1 < 80) (k : ∀ M', M' = (put M 111 s1 s0) → XW kX12_valueOf d (some .int) (wQi Q) 171 [some (.inr (.inr 92)), some (.inl x1), some (.inl x2), some (.inl x3), some (.inl x4), some (.inl x5), some (.inl x6), some (.inl x7), some (.inl x8), wx9] [] M') : XW kX12_valueOf d (some .int) (wQi Q) 170 [some (.inr (.inr 92)), some (.inl x1), some (.inl x2), some (.inl x3), some (.inl x4), some (.inl x5), some (.inl x6), some (.inl x7), some (.inl x8), wx9] [.inl s0, .inl s1, .inr (.inr 111)] M := by
  refine x_iastore rfl ⟨sh111, Nat.le_of_ble_eq_true rfl⟩ h1  ?_
  exact k _ rfl
theorem uX12_valueOf_171 {d : Nat} {Q : Int → yM → Prop} {M : yM} {x1 : Int} {x2 : Int} {x3 : Int} {x4 : Int} {x5 : Int} {x6 : Int} {x7 : Int} {x8 : Int} {wx9 : Option yV} (k : XW kX12_valueOf d (some .int) (wQi Q) 250 [some (.inr (.inr 92)), some (.inl x1), some (.inl x2), some (.inl x3), some (.inl x4), some (.inl x5), some (.inl x6), some (.inl x7), some (.inl x8), wx9] [] M) : XW kX12_valueOf d (some .int) (wQi Q) 171 [some (.inr (.inr 92)), some (.inl x1), some (.inl x2), some (.inl x3), some (.inl x4), some (.inl x5), some (.inl x6), some (.inl x7), some (.inl x8), wx9] [] M := by
  exact x_goto rfl k
theorem uX12_valueOf_174 {d : Nat} {Q : Int → yM → Prop} {M : yM} {x1 : Int} {x2 : Int} {x3 : Int} {x4 : Int} {x5 : Int} {x6 : Int} {x7 : Int} {wx8 : Option yV} {wx9 : Option yV} (h1 : -2147483648 ≤ x7 ∧ x7 < 2147483648) (kt : x7 ≠ 49 → XW kX12_valueOf d (some .int) (wQi Q) 194 [some (.inr (.inr 92)), some (.inl x1), some (.inl x2), some (.inl x3), some (.inl x4), some (.inl x5), some (.inl x6), some (.inl x7), wx8, wx9] [.inl x5, .inr (.inr 111)] M) (kf : x7 = 49 → XW kX12_valueOf d (some .int) (wQi Q) 187 [some (.inr (.inr 92)), some (.inl x1), some (.inl x2), some (.inl x3), some (.inl x4), some (.inl x5), some (.inl x6), some (.inl x7), wx8, wx9] [.inl x5, .inr (.inr 111)] M) : XW kX12_valueOf d (some .int) (wQi Q) 174 [some (.inr (.inr 92)), some (.inl x1), some (.inl x2), some (.inl x3), some (.inl x4), some (.inl x5), some (.inl x6), some (.inl x7), wx8, wx9] [] M := by
  refine x_aload_n rfl rfl ?_
  refine x_getR rfl sh92 rfl ?_
  refine x_iload rfl rfl ?_
  refine x_iload rfl rfl ?_
  refine x_bipush 49 rfl (by decide) ?_
  exact x_icmpne rfl h1 (by decide) kt kf
theorem uX12_valueOf_187 {d : Nat} {Q : Int → yM → Prop} {M : yM} {x1 : Int} {x2 : Int} {x3 : Int} {x4 : Int} {x5 : Int} {x6 : Int} {x7 : Int} {wx8 : Option yV} {wx9 : Option yV} {s0 : Int} (k : XCi d 121 [.inr (.inr 92)] M (fun v M' => XW kX12_valueOf (d + 1) (some .int) (wQi Q) 191 [some (.inr (.inr 92)), some (.inl x1), some (.inl x2), some (.inl x3), some (.inl x4), some (.inl x5), some (.inl x6), some (.inl x7), wx8, wx9] [.inl v, .inl s0, .inr (.inr 111)] M')) : XW kX12_valueOf (d + 1) (some .int) (wQi Q) 187 [some (.inr (.inr 92)), some (.inl x1), some (.inl x2), some (.inl x3), some (.inl x4), some (.inl x5), some (.inl x6), some (.inl x7), wx8, wx9] [.inl s0, .inr (.inr 111)] M := by
  refine x_aload_n rfl rfl ?_
  exact x_calli (args := [.inr (.inr 92)]) rfl rfl rfl k
theorem uX12_valueOf_191 {d : Nat} {Q : Int → yM → Prop} {M : yM} {x1 : Int} {x2 : Int} {x3 : Int} {x4 : Int} {x5 : Int} {x6 : Int} {x7 : Int} {wx8 : Option yV} {wx9 : Option yV} {s0 : Int} {s1 : Int} (k : XW kX12_valueOf d (some .int) (wQi Q) 246 [some (.inr (.inr 92)), some (.inl x1), some (.inl x2), some (.inl x3), some (.inl x4), some (.inl x5), some (.inl x6), some (.inl x7), wx8, wx9] [.inl s0, .inl s1, .inr (.inr 111)] M) : XW kX12_valueOf d (some .int) (wQi Q) 191 [some (.inr (.inr 92)), some (.inl x1), some (.inl x2), some (.inl x3), some (.inl x4), some (.inl x5), some (.inl x6), some (.inl x7), wx8, wx9] [.inl s0, .inl s1, .inr (.inr 111)] M := by
  exact x_goto rfl k
theorem uX12_valueOf_194 {d : Nat} {Q : Int → yM → Prop} {M : yM} {x1 : Int} {x2 : Int} {x3 : Int} {x4 : Int} {x5 : Int} {x6 : Int} {x7 : Int} {wx8 : Option yV} {wx9 : Option yV} {s0 : Int} (h1 : -2147483648 ≤ x7 ∧ x7 < 2147483648) (kt : x7 ≠ 48 → XW kX12_valueOf d (some .int) (wQi Q) 205 [some (.inr (.inr 92)), some (.inl x1), some (.inl x2), some (.inl x3), some (.inl x4), some (.inl x5), some (.inl x6), some (.inl x7), wx8, wx9] [.inl s0, .inr (.inr 111)] M) (kf : x7 = 48 → XW kX12_valueOf d (some .int) (wQi Q) 201 [some (.inr (.inr 92)), some (.inl x1), some (.inl x2), some (.inl x3), some (.inl x4), some (.inl x5), some (.inl x6), some (.inl x7), wx8, wx9] [.inl s0, .inr (.inr 111)] M) : XW kX12_valueOf d (some .int) (wQi Q) 194 [some (.inr (.inr 92)), some (.inl x1), some (.inl x2), some (.inl x3), some (.inl x4), some (.inl x5), some (.inl x6), some (.inl x7), wx8, wx9] [.inl s0, .inr (.inr 111)] M := by
  refine x_iload rfl rfl ?_
  refine x_bipush 48 rfl (by decide) ?_
  exact x_icmpne rfl h1 (by decide) kt kf
theorem uX12_valueOf_201 {d : Nat} {Q : Int → yM → Prop} {M : yM} {x1 : Int} {x2 : Int} {x3 : Int} {x4 : Int} {x5 : Int} {x6 : Int} {x7 : Int} {wx8 : Option yV} {wx9 : Option yV} {s0 : Int} (k : XW kX12_valueOf d (some .int) (wQi Q) 246 [some (.inr (.inr 92)), some (.inl x1), some (.inl x2), some (.inl x3), some (.inl x4), some (.inl x5), some (.inl x6), some (.inl x7), wx8, wx9] [.inl 0, .inl s0, .inr (.inr 111)] M) : XW kX12_valueOf d (some .int) (wQi Q) 201 [some (.inr (.inr 92)), some (.inl x1), some (.inl x2), some (.inl x3), some (.inl x4), some (.inl x5), some (.inl x6), some (.inl x7), wx8, wx9] [.inl s0, .inr (.inr 111)] M := by
  refine x_iconst 0 rfl (by decide) ?_
  exact x_goto rfl k
theorem uX12_valueOf_205 {d : Nat} {Q : Int → yM → Prop} {M : yM} {x1 : Int} {x2 : Int} {x3 : Int} {x4 : Int} {x5 : Int} {x6 : Int} {x7 : Int} {wx8 : Option yV} {wx9 : Option yV} {s0 : Int} (h1 : -2147483648 ≤ x7 ∧ x7 < 2147483648) (kt : x7 ≠ 120 → XW kX12_valueOf d (some .int) (wQi Q) 216 [some (.inr (.inr 92)), some (.inl x1), some (.inl x2), some (.inl x3), some (.inl x4), some (.inl x5), some (.inl x6), some (.inl x7), wx8, wx9] [.inl s0, .inr (.inr 111)] M) (kf : x7 = 120 → XW kX12_valueOf d (some .int) (wQi Q) 212 [some (.inr (.inr 92)), some (.inl x1), some (.inl x2), some (.inl x3), some (.inl x4), some (.inl x5), some (.inl x6), some (.inl x7), wx8, wx9] [.inl s0, .inr (.inr 111)] M) : XW kX12_valueOf d (some .int) (wQi Q) 205 [some (.inr (.inr 92)), some (.inl x1), some (.inl x2), some (.inl x3), some (.inl x4), some (.inl x5), some (.inl x6), some (.inl x7), wx8, wx9] [.inl s0, .inr (.inr 111)] M := by
  refine x_iload rfl rfl ?_
  refine x_bipush 120 rfl (by decide) ?_
  exact x_icmpne rfl h1 (by decide) kt kf
theorem uX12_valueOf_212 {d : Nat} {Q : Int → yM → Prop} {M : yM} {x1 : Int} {x2 : Int} {x3 : Int} {x4 : Int} {x5 : Int} {x6 : Int} {x7 : Int} {wx8 : Option yV} {wx9 : Option yV} {s0 : Int} (k : XW kX12_valueOf d (some .int) (wQi Q) 246 [some (.inr (.inr 92)), some (.inl x1), some (.inl x2), some (.inl x3), some (.inl x4), some (.inl x5), some (.inl x6), some (.inl x7), wx8, wx9] [.inl x2, .inl s0, .inr (.inr 111)] M) : XW kX12_valueOf d (some .int) (wQi Q) 212 [some (.inr (.inr 92)), some (.inl x1), some (.inl x2), some (.inl x3), some (.inl x4), some (.inl x5), some (.inl x6), some (.inl x7), wx8, wx9] [.inl s0, .inr (.inr 111)] M := by
  refine x_iload_n rfl rfl ?_
  exact x_goto rfl k
theorem uX12_valueOf_216 {d : Nat} {Q : Int → yM → Prop} {M : yM} {x1 : Int} {x2 : Int} {x3 : Int} {x4 : Int} {x5 : Int} {x6 : Int} {x7 : Int} {wx8 : Option yV} {wx9 : Option yV} {s0 : Int} (h1 : -2147483648 ≤ x7 ∧ x7 < 2147483648) (kt : x7 ≠ 121 → XW kX12_valueOf d (some .int) (wQi Q) 227 [some (.inr (.inr 92)), some (.inl x1), some (.inl x2), some (.inl x3), some (.inl x4), some (.inl x5), some (.inl x6), some (.inl x7), wx8, wx9] [.inl s0, .inr (.inr 111)] M) (kf : x7 = 121 → XW kX12_valueOf d (some .int) (wQi Q) 223 [some (.inr (.inr 92)), some (.inl x1), some (.inl x2), some (.inl x3), some (.inl x4), some (.inl x5), some (.inl x6), some (.inl x7), wx8, wx9] [.inl s0, .inr (.inr 111)] M) : XW kX12_valueOf d (some .int) (wQi Q) 216 [some (.inr (.inr 92)), some (.inl x1), some (.inl x2), some (.inl x3), some (.inl x4), some (.inl x5), some (.inl x6), some (.inl x7), wx8, wx9] [.inl s0, .inr (.inr 111)] M := by
  refine x_iload rfl rfl ?_
  refine x_bipush 121 rfl (by decide) ?_
  exact x_icmpne rfl h1 (by decide) kt kf
theorem uX12_valueOf_223 {d : Nat} {Q : Int → yM → Prop} {M : yM} {x1 : Int} {x2 : Int} {x3 : Int} {x4 : Int} {x5 : Int} {x6 : Int} {x7 : Int} {wx8 : Option yV} {wx9 : Option yV} {s0 : Int} (k : XW kX12_valueOf d (some .int) (wQi Q) 246 [some (.inr (.inr 92)), some (.inl x1), some (.inl x2), some (.inl x3), some (.inl x4), some (.inl x5), some (.inl x6), some (.inl x7), wx8, wx9] [.inl x3, .inl s0, .inr (.inr 111)] M) : XW kX12_valueOf d (some .int) (wQi Q) 223 [some (.inr (.inr 92)), some (.inl x1), some (.inl x2), some (.inl x3), some (.inl x4), some (.inl x5), some (.inl x6), some (.inl x7), wx8, wx9] [.inl s0, .inr (.inr 111)] M := by
  refine x_iload_n rfl rfl ?_
  exact x_goto rfl k
theorem uX12_valueOf_227 {d : Nat} {Q : Int → yM → Prop} {M : yM} {x1 : Int} {x2 : Int} {x3 : Int} {x4 : Int} {x5 : Int} {x6 : Int} {x7 : Int} {wx8 : Option yV} {wx9 : Option yV} {s0 : Int} (h1 : -2147483648 ≤ x7 ∧ x7 < 2147483648) (kt : x7 ≠ 122 → XW kX12_valueOf d (some .int) (wQi Q) 239 [some (.inr (.inr 92)), some (.inl x1), some (.inl x2), some (.inl x3), some (.inl x4), some (.inl x5), some (.inl x6), some (.inl x7), wx8, wx9] [.inl s0, .inr (.inr 111)] M) (kf : x7 = 122 → XW kX12_valueOf d (some .int) (wQi Q) 234 [some (.inr (.inr 92)), some (.inl x1), some (.inl x2), some (.inl x3), some (.inl x4), some (.inl x5), some (.inl x6), some (.inl x7), wx8, wx9] [.inl s0, .inr (.inr 111)] M) : XW kX12_valueOf d (some .int) (wQi Q) 227 [some (.inr (.inr 92)), some (.inl x1), some (.inl x2), some (.inl x3), some (.inl x4), some (.inl x5), some (.inl x6), some (.inl x7), wx8, wx9] [.inl s0, .inr (.inr 111)] M := by
  refine x_iload rfl rfl ?_
  refine x_bipush 122 rfl (by decide) ?_
  exact x_icmpne rfl h1 (by decide) kt kf
theorem uX12_valueOf_234 {d : Nat} {Q : Int → yM → Prop} {M : yM} {x1 : Int} {x2 : Int} {x3 : Int} {x4 : Int} {x5 : Int} {x6 : Int} {x7 : Int} {wx8 : Option yV} {wx9 : Option yV} {s0 : Int} (k : XW kX12_valueOf d (some .int) (wQi Q) 246 [some (.inr (.inr 92)), some (.inl x1), some (.inl x2), some (.inl x3), some (.inl x4), some (.inl x5), some (.inl x6), some (.inl x7), wx8, wx9] [.inl x4, .inl s0, .inr (.inr 111)] M) : XW kX12_valueOf d (some .int) (wQi Q) 234 [some (.inr (.inr 92)), some (.inl x1), some (.inl x2), some (.inl x3), some (.inl x4), some (.inl x5), some (.inl x6), some (.inl x7), wx8, wx9] [.inl s0, .inr (.inr 111)] M := by
  refine x_iload rfl rfl ?_
  exact x_goto rfl k
theorem uX12_valueOf_239 {d : Nat} {Q : Int → yM → Prop} {M : yM} {x1 : Int} {x2 : Int} {x3 : Int} {x4 : Int} {x5 : Int} {x6 : Int} {x7 : Int} {wx8 : Option yV} {wx9 : Option yV} {s0 : Int} (k : XW kX12_valueOf d (some .int) (wQi Q) 246 [some (.inr (.inr 92)), some (.inl x1), some (.inl x2), some (.inl x3), some (.inl x4), some (.inl x5), some (.inl x6), some (.inl x7), wx8, wx9] [.inl (yshl 1 (x7 - 97)), .inl s0, .inr (.inr 111)] M) : XW kX12_valueOf d (some .int) (wQi Q) 239 [some (.inr (.inr 92)), some (.inl x1), some (.inl x2), some (.inl x3), some (.inl x4), some (.inl x5), some (.inl x6), some (.inl x7), wx8, wx9] [.inl s0, .inr (.inr 111)] M := by
  refine x_iconst 1 rfl (by decide) ?_
  refine x_iload rfl rfl ?_
  refine x_bipush 97 rfl (by decide) ?_
  refine x_isub rfl ?_
  refine x_ishl rfl ?_
  exact k
theorem uX12_valueOf_246 {d : Nat} {Q : Int → yM → Prop} {M : yM} {x1 : Int} {x2 : Int} {x3 : Int} {x4 : Int} {x5 : Int} {x6 : Int} {x7 : Int} {wx8 : Option yV} {wx9 : Option yV} {s0 : Int} {s1 : Int} (h1 : 0 ≤ s1 ∧ s1 < 80) (k : ∀ M', M' = (put M 111 s1 s0) → XW kX12_valueOf d (some .int) (wQi Q) 247 [some (.inr (.inr 92)), some (.inl x1), some (.inl x2), some (.inl x3), some (.inl x4), some (.inl x5), some (.inl x6), some (.inl x7), wx8, wx9] [] M') : XW kX12_valueOf d (some .int) (wQi Q) 246 [some (.inr (.inr 92)), some (.inl x1), some (.inl x2), some (.inl x3), some (.inl x4), some (.inl x5), some (.inl x6), some (.inl x7), wx8, wx9] [.inl s0, .inl s1, .inr (.inr 111)] M := by
  refine x_iastore rfl ⟨sh111, Nat.le_of_ble_eq_true rfl⟩ h1  ?_
  exact k _ rfl
theorem uX12_valueOf_247 {d : Nat} {Q : Int → yM → Prop} {M : yM} {x1 : Int} {x2 : Int} {x3 : Int} {x4 : Int} {x5 : Int} {x6 : Int} {x7 : Int} {wx8 : Option yV} {wx9 : Option yV} (k : XW kX12_valueOf d (some .int) (wQi Q) 250 [some (.inr (.inr 92)), some (.inl x1), some (.inl x2), some (.inl x3), some (.inl x4), some (.inl (x5 + 1)), some (.inl x6), some (.inl x7), wx8, wx9] [] M) : XW kX12_valueOf d (some .int) (wQi Q) 247 [some (.inr (.inr 92)), some (.inl x1), some (.inl x2), some (.inl x3), some (.inl x4), some (.inl x5), some (.inl x6), some (.inl x7), wx8, wx9] [] M := by
  refine x_iinc 1 rfl (by decide) rfl rfl ?_
  exact k
theorem uX12_valueOf_250 {d : Nat} {Q : Int → yM → Prop} {M : yM} {x1 : Int} {x2 : Int} {x3 : Int} {x4 : Int} {x5 : Int} {x6 : Int} {x7 : Int} {wx8 : Option yV} {wx9 : Option yV} (k : XW kX12_valueOf d (some .int) (wQi Q) 6 [some (.inr (.inr 92)), some (.inl x1), some (.inl x2), some (.inl x3), some (.inl x4), some (.inl x5), some (.inl (x6 + 1)), some (.inl x7), wx8, wx9] [] M) : XW kX12_valueOf d (some .int) (wQi Q) 250 [some (.inr (.inr 92)), some (.inl x1), some (.inl x2), some (.inl x3), some (.inl x4), some (.inl x5), some (.inl x6), some (.inl x7), wx8, wx9] [] M := by
  refine x_iinc 1 rfl (by decide) rfl rfl ?_
  exact x_goto rfl k
theorem uX12_valueOf_256 {d : Nat} {Q : Int → yM → Prop} {M : yM} {x1 : Int} {x2 : Int} {x3 : Int} {x4 : Int} {x5 : Int} {x6 : Int} {wx7 : Option yV} {wx8 : Option yV} {wx9 : Option yV} (k : Q (ld M 111 0) M) : XW kX12_valueOf d (some .int) (wQi Q) 256 [some (.inr (.inr 92)), some (.inl x1), some (.inl x2), some (.inl x3), some (.inl x4), some (.inl x5), some (.inl x6), wx7, wx8, wx9] [] M := by
  refine x_aload_n rfl rfl ?_
  refine x_getR rfl sh92 rfl ?_
  refine x_iconst 0 rfl (by decide) ?_
  refine x_iaload rfl ⟨sh111, Nat.le_of_ble_eq_true rfl⟩ (by decide) ?_
  exact x_ireturn rfl k
theorem eX12_value {d : Nat} {Q : Int → yM → Prop} {M : yM} {x1 : Int} {x2 : Int} {x3 : Int} {x4 : Int}  (h : XW kX12_value d (some .int) (wQi Q) 0 [some (.inr (.inr 92)), some (.inl x1), some (.inl x2), some (.inl x3), some (.inl x4)] [] M) : XCi d 171 [.inr (.inr 92), .inl x1, .inl x2, .inl x3, .inl x4] M Q :=
  XC.ofW (Mm := (yX12_value, cX12_value, 5, (some .int), 13, kX12_value)) rfl (rcv_ok sh92) rfl rfl h
theorem uX12_value_0 {d : Nat} {Q : Int → yM → Prop} {M : yM} {x1 : Int} {x2 : Int} {x3 : Int} {x4 : Int} (k : ∀ M', M' = (put M 92 0 0) → XW kX12_value d (some .int) (wQi Q) 5 [some (.inr (.inr 92)), some (.inl x1), some (.inl x2), some (.inl x3), some (.inl x4)] [] M') : XW kX12_value d (some .int) (wQi Q) 0 [some (.inr (.inr 92)), some (.inl x1), some (.inl x2), some (.inl x3), some (.inl x4)] [] M := by
  refine x_aload_n rfl rfl ?_
  refine x_iconst 0 rfl (by decide) ?_
  refine x_putI rfl rfl sh92 rfl ?_
  exact k _ rfl
theorem uX12_value_5 {d : Nat} {Q : Int → yM → Prop} {M : yM} {x1 : Int} {x2 : Int} {x3 : Int} {x4 : Int} (k : XCi d 168 [.inl x1] M (fun v M' => XW kX12_value (d + 1) (some .int) (wQi Q) 9 [some (.inr (.inr 92)), some (.inl x1), some (.inl x2), some (.inl x3), some (.inl x4)] [.inl v] M')) : XW kX12_value (d + 1) (some .int) (wQi Q) 5 [some (.inr (.inr 92)), some (.inl x1), some (.inl x2), some (.inl x3), some (.inl x4)] [] M := by
  refine x_iload_n rfl rfl ?_
  exact x_calli (args := [.inl x1]) rfl rfl rfl k
theorem uX12_value_9 {d : Nat} {Q : Int → yM → Prop} {M : yM} {x1 : Int} {x2 : Int} {x3 : Int} {x4 : Int} {s0 : Int} (h1 : -2147483648 ≤ s0 ∧ s0 < 2147483648) (kt : s0 = 0 → XW kX12_value d (some .int) (wQi Q) 49 [some (.inr (.inr 92)), some (.inl x1), some (.inl x2), some (.inl x3), some (.inl x4)] [] M) (kf : s0 ≠ 0 → XW kX12_value d (some .int) (wQi Q) 12 [some (.inr (.inr 92)), some (.inl x1), some (.inl x2), some (.inl x3), some (.inl x4)] [] M) : XW kX12_value d (some .int) (wQi Q) 9 [some (.inr (.inr 92)), some (.inl x1), some (.inl x2), some (.inl x3), some (.inl x4)] [.inl s0] M := by
  exact x_ifeq rfl h1 kt kf
theorem uX12_value_12 {d : Nat} {Q : Int → yM → Prop} {M : yM} {x1 : Int} {x2 : Int} {x3 : Int} {x4 : Int} (k : XCi d 123 [.inr (.inr 92), .inl x2] M (fun v M' => XW kX12_value (d + 1) (some .int) (wQi Q) 17 [some (.inr (.inr 92)), some (.inl x1), some (.inl x2), some (.inl x3), some (.inl x4)] [.inl v] M')) : XW kX12_value (d + 1) (some .int) (wQi Q) 12 [some (.inr (.inr 92)), some (.inl x1), some (.inl x2), some (.inl x3), some (.inl x4)] [] M := by
  refine x_aload_n rfl rfl ?_
  refine x_iload_n rfl rfl ?_
  exact x_calli (args := [.inr (.inr 92), .inl x2]) rfl rfl rfl k
theorem uX12_value_17 {d : Nat} {Q : Int → yM → Prop} {M : yM} {x1 : Int} {x2 : Int} {x3 : Int} {x4 : Int} {s0 : Int} (h1 : -2147483648 ≤ s0 ∧ s0 < 2147483648) (kt : s0 = 0 → XW kX12_value d (some .int) (wQi Q) 49 [some (.inr (.inr 92)), some (.inl x1), some (.inl x2), some (.inl x3), some (.inl x4)] [] M) (kf : s0 ≠ 0 → XW kX12_value d (some .int) (wQi Q) 20 [some (.inr (.inr 92)), some (.inl x1), some (.inl x2), some (.inl x3), some (.inl x4)] [] M) : XW kX12_value d (some .int) (wQi Q) 17 [some (.inr (.inr 92)), some (.inl x1), some (.inl x2), some (.inl x3), some (.inl x4)] [.inl s0] M := by
  exact x_ifeq rfl h1 kt kf
theorem uX12_value_20 {d : Nat} {Q : Int → yM → Prop} {M : yM} {x1 : Int} {x2 : Int} {x3 : Int} {x4 : Int} (k : XCi d 123 [.inr (.inr 92), .inl x3] M (fun v M' => XW kX12_value (d + 1) (some .int) (wQi Q) 25 [some (.inr (.inr 92)), some (.inl x1), some (.inl x2), some (.inl x3), some (.inl x4)] [.inl v] M')) : XW kX12_value (d + 1) (some .int) (wQi Q) 20 [some (.inr (.inr 92)), some (.inl x1), some (.inl x2), some (.inl x3), some (.inl x4)] [] M := by
  refine x_aload_n rfl rfl ?_
  refine x_iload_n rfl rfl ?_
  exact x_calli (args := [.inr (.inr 92), .inl x3]) rfl rfl rfl k
theorem uX12_value_25 {d : Nat} {Q : Int → yM → Prop} {M : yM} {x1 : Int} {x2 : Int} {x3 : Int} {x4 : Int} {s0 : Int} (h1 : -2147483648 ≤ s0 ∧ s0 < 2147483648) (kt : s0 = 0 → XW kX12_value d (some .int) (wQi Q) 49 [some (.inr (.inr 92)), some (.inl x1), some (.inl x2), some (.inl x3), some (.inl x4)] [] M) (kf : s0 ≠ 0 → XW kX12_value d (some .int) (wQi Q) 28 [some (.inr (.inr 92)), some (.inl x1), some (.inl x2), some (.inl x3), some (.inl x4)] [] M) : XW kX12_value d (some .int) (wQi Q) 25 [some (.inr (.inr 92)), some (.inl x1), some (.inl x2), some (.inl x3), some (.inl x4)] [.inl s0] M := by
  exact x_ifeq rfl h1 kt kf
theorem uX12_value_28 {d : Nat} {Q : Int → yM → Prop} {M : yM} {x1 : Int} {x2 : Int} {x3 : Int} {x4 : Int} (k : XCi d 123 [.inr (.inr 92), .inl x4] M (fun v M' => XW kX12_value (d + 1) (some .int) (wQi Q) 34 [some (.inr (.inr 92)), some (.inl x1), some (.inl x2), some (.inl x3), some (.inl x4)] [.inl v] M')) : XW kX12_value (d + 1) (some .int) (wQi Q) 28 [some (.inr (.inr 92)), some (.inl x1), some (.inl x2), some (.inl x3), some (.inl x4)] [] M := by
  refine x_aload_n rfl rfl ?_
  refine x_iload rfl rfl ?_
  exact x_calli (args := [.inr (.inr 92), .inl x4]) rfl rfl rfl k
theorem uX12_value_34 {d : Nat} {Q : Int → yM → Prop} {M : yM} {x1 : Int} {x2 : Int} {x3 : Int} {x4 : Int} {s0 : Int} (h1 : -2147483648 ≤ s0 ∧ s0 < 2147483648) (kt : s0 = 0 → XW kX12_value d (some .int) (wQi Q) 49 [some (.inr (.inr 92)), some (.inl x1), some (.inl x2), some (.inl x3), some (.inl x4)] [] M) (kf : s0 ≠ 0 → XW kX12_value d (some .int) (wQi Q) 37 [some (.inr (.inr 92)), some (.inl x1), some (.inl x2), some (.inl x3), some (.inl x4)] [] M) : XW kX12_value d (some .int) (wQi Q) 34 [some (.inr (.inr 92)), some (.inl x1), some (.inl x2), some (.inl x3), some (.inl x4)] [.inl s0] M := by
  exact x_ifeq rfl h1 kt kf
theorem uX12_value_37 {d : Nat} {Q : Int → yM → Prop} {M : yM} {x1 : Int} {x2 : Int} {x3 : Int} {x4 : Int} (k : XCi d 170 [.inr (.inr 92), .inl x1, .inl x2, .inl x3, .inl x4] M (fun v M' => XW kX12_value (d + 1) (some .int) (wQi Q) 46 [some (.inr (.inr 92)), some (.inl x1), some (.inl x2), some (.inl x3), some (.inl x4)] [.inl v] M')) : XW kX12_value (d + 1) (some .int) (wQi Q) 37 [some (.inr (.inr 92)), some (.inl x1), some (.inl x2), some (.inl x3), some (.inl x4)] [] M := by
  refine x_aload_n rfl rfl ?_
  refine x_iload_n rfl rfl ?_
  refine x_iload_n rfl rfl ?_
  refine x_iload_n rfl rfl ?_
  refine x_iload rfl rfl ?_
  exact x_calli (args := [.inr (.inr 92), .inl x1, .inl x2, .inl x3, .inl x4]) rfl rfl rfl k
theorem uX12_value_46 {d : Nat} {Q : Int → yM → Prop} {M : yM} {x1 : Int} {x2 : Int} {x3 : Int} {x4 : Int} {s0 : Int} (k : XW kX12_value d (some .int) (wQi Q) 50 [some (.inr (.inr 92)), some (.inl x1), some (.inl x2), some (.inl x3), some (.inl x4)] [.inl s0] M) : XW kX12_value d (some .int) (wQi Q) 46 [some (.inr (.inr 92)), some (.inl x1), some (.inl x2), some (.inl x3), some (.inl x4)] [.inl s0] M := by
  exact x_goto rfl k
theorem uX12_value_49 {d : Nat} {Q : Int → yM → Prop} {M : yM} {x1 : Int} {x2 : Int} {x3 : Int} {x4 : Int} (k : XW kX12_value d (some .int) (wQi Q) 50 [some (.inr (.inr 92)), some (.inl x1), some (.inl x2), some (.inl x3), some (.inl x4)] [.inl (-1)] M) : XW kX12_value d (some .int) (wQi Q) 49 [some (.inr (.inr 92)), some (.inl x1), some (.inl x2), some (.inl x3), some (.inl x4)] [] M := by
  refine x_iconst (-1) rfl (by decide) ?_
  exact k
theorem uX12_value_50 {d : Nat} {Q : Int → yM → Prop} {M : yM} {x1 : Int} {x2 : Int} {x3 : Int} {x4 : Int} {s0 : Int} (k : Q s0 M) : XW kX12_value d (some .int) (wQi Q) 50 [some (.inr (.inr 92)), some (.inl x1), some (.inl x2), some (.inl x3), some (.inl x4)] [.inl s0] M := by
  exact x_ireturn rfl k
theorem eX12_standing {d : Nat} {Q : Int → yM → Prop} {M : yM} {x1 : Int}  (h : XW kX12_standing d (some .int) (wQi Q) 0 [some (.inr (.inr 92)), some (.inl x1), none, none, none] [] M) : XCi d 172 [.inr (.inr 92), .inl x1] M Q :=
  XC.ofW (Mm := (yX12_standing, cX12_standing, 5, (some .int), 13, kX12_standing)) rfl (rcv_ok sh92) rfl rfl h
theorem uX12_standing_0 {d : Nat} {Q : Int → yM → Prop} {M : yM} {x1 : Int} (k : XW kX12_standing d (some .int) (wQi Q) 4 [some (.inr (.inr 92)), some (.inl x1), some (.inl 0), some (.inl 0), none] [] M) : XW kX12_standing d (some .int) (wQi Q) 0 [some (.inr (.inr 92)), some (.inl x1), none, none, none] [] M := by
  refine x_iconst 0 rfl (by decide) ?_
  refine x_istore_n rfl (Nat.le_of_ble_eq_true rfl) rfl ?_
  refine x_iconst 0 rfl (by decide) ?_
  refine x_istore_n rfl (Nat.le_of_ble_eq_true rfl) rfl ?_
  exact k
theorem uX12_standing_4 {d : Nat} {Q : Int → yM → Prop} {M : yM} {x1 : Int} {x2 : Int} {x3 : Int} {wx4 : Option yV} (h1 : 0 ≤ x1 ∧ x1 < 4) (h2 : -2147483648 ≤ x3 ∧ x3 < 2147483648) (kt : x3 ≥ (ld M 108 x1) → XW kX12_standing d (some .int) (wQi Q) 59 [some (.inr (.inr 92)), some (.inl x1), some (.inl x2), some (.inl x3), wx4] [] M) (kf : x3 < (ld M 108 x1) → XW kX12_standing d (some .int) (wQi Q) 14 [some (.inr (.inr 92)), some (.inl x1), some (.inl x2), some (.inl x3), wx4] [] M) : XW kX12_standing d (some .int) (wQi Q) 4 [some (.inr (.inr 92)), some (.inl x1), some (.inl x2), some (.inl x3), wx4] [] M := by
  refine x_iload_n rfl rfl ?_
  refine x_aload_n rfl rfl ?_
  refine x_getR rfl sh92 rfl ?_
  refine x_iload_n rfl rfl ?_
  refine x_iaload rfl ⟨sh108, Nat.le_of_ble_eq_true rfl⟩ h1 ?_
  exact x_icmpge rfl h2 (rng_ld _ _ _) kt kf
theorem uX12_standing_14 {d : Nat} {Q : Int → yM → Prop} {M : yM} {x1 : Int} {x2 : Int} {x3 : Int} {wx4 : Option yV} (h1 : 0 ≤ ((60 * x1) + x3) ∧ ((60 * x1) + x3) < 240) (k : XCi d 120 [.inl (ld M 107 ((60 * x1) + x3)), .inl 120, .inl 122] M (fun v M' => XW kX12_standing (d + 1) (some .int) (wQi Q) 37 [some (.inr (.inr 92)), some (.inl x1), some (.inl x2), some (.inl x3), some (.inl (ld M 107 ((60 * x1) + x3)))] [.inl v, .inl x2] M')) : XW kX12_standing (d + 1) (some .int) (wQi Q) 14 [some (.inr (.inr 92)), some (.inl x1), some (.inl x2), some (.inl x3), wx4] [] M := by
  refine x_aload_n rfl rfl ?_
  refine x_getR rfl sh92 rfl ?_
  refine x_bipush 60 rfl (by decide) ?_
  refine x_iload_n rfl rfl ?_
  refine x_imul rfl ?_
  refine x_iload_n rfl rfl ?_
  refine x_iadd rfl ?_
  refine x_iaload rfl ⟨sh107, Nat.le_of_ble_eq_true rfl⟩ h1 ?_
  refine x_istore rfl (Nat.le_of_ble_eq_true rfl) rfl ?_
  refine x_iload_n rfl rfl ?_
  refine x_iload rfl rfl ?_
  refine x_bipush 120 rfl (by decide) ?_
  refine x_bipush 122 rfl (by decide) ?_
  exact x_calli (args := [.inl (ld M 107 ((60 * x1) + x3)), .inl 120, .inl 122]) rfl rfl rfl k
theorem uX12_standing_37 {d : Nat} {Q : Int → yM → Prop} {M : yM} {x1 : Int} {x2 : Int} {x3 : Int} {x4 : Int} {s0 : Int} {s1 : Int} (h1 : -2147483648 ≤ s0 ∧ s0 < 2147483648) (kt : s0 = 0 → XW kX12_standing d (some .int) (wQi Q) 50 [some (.inr (.inr 92)), some (.inl x1), some (.inl x2), some (.inl x3), some (.inl x4)] [.inl s1] M) (kf : s0 ≠ 0 → XW kX12_standing d (some .int) (wQi Q) 40 [some (.inr (.inr 92)), some (.inl x1), some (.inl x2), some (.inl x3), some (.inl x4)] [.inl s1] M) : XW kX12_standing d (some .int) (wQi Q) 37 [some (.inr (.inr 92)), some (.inl x1), some (.inl x2), some (.inl x3), some (.inl x4)] [.inl s0, .inl s1] M := by
  exact x_ifeq rfl h1 kt kf
theorem uX12_standing_40 {d : Nat} {Q : Int → yM → Prop} {M : yM} {x1 : Int} {x2 : Int} {x3 : Int} {x4 : Int} {s0 : Int} (k : XW kX12_standing d (some .int) (wQi Q) 51 [some (.inr (.inr 92)), some (.inl x1), some (.inl x2), some (.inl x3), some (.inl x4)] [.inl (yshl 1 (x4 - 120)), .inl s0] M) : XW kX12_standing d (some .int) (wQi Q) 40 [some (.inr (.inr 92)), some (.inl x1), some (.inl x2), some (.inl x3), some (.inl x4)] [.inl s0] M := by
  refine x_iconst 1 rfl (by decide) ?_
  refine x_iload rfl rfl ?_
  refine x_bipush 120 rfl (by decide) ?_
  refine x_isub rfl ?_
  refine x_ishl rfl ?_
  exact x_goto rfl k
theorem uX12_standing_50 {d : Nat} {Q : Int → yM → Prop} {M : yM} {x1 : Int} {x2 : Int} {x3 : Int} {x4 : Int} {s0 : Int} (k : XW kX12_standing d (some .int) (wQi Q) 51 [some (.inr (.inr 92)), some (.inl x1), some (.inl x2), some (.inl x3), some (.inl x4)] [.inl 0, .inl s0] M) : XW kX12_standing d (some .int) (wQi Q) 50 [some (.inr (.inr 92)), some (.inl x1), some (.inl x2), some (.inl x3), some (.inl x4)] [.inl s0] M := by
  refine x_iconst 0 rfl (by decide) ?_
  exact k
theorem uX12_standing_51 {d : Nat} {Q : Int → yM → Prop} {M : yM} {x1 : Int} {x2 : Int} {x3 : Int} {x4 : Int} {s0 : Int} {s1 : Int} (k : XW kX12_standing d (some .int) (wQi Q) 4 [some (.inr (.inr 92)), some (.inl x1), some (.inl (yor s1 s0)), some (.inl (x3 + 1)), some (.inl x4)] [] M) : XW kX12_standing d (some .int) (wQi Q) 51 [some (.inr (.inr 92)), some (.inl x1), some (.inl x2), some (.inl x3), some (.inl x4)] [.inl s0, .inl s1] M := by
  refine x_ior rfl ?_
  refine x_istore_n rfl (Nat.le_of_ble_eq_true rfl) rfl ?_
  refine x_iinc 1 rfl (by decide) rfl rfl ?_
  exact x_goto rfl k
theorem uX12_standing_59 {d : Nat} {Q : Int → yM → Prop} {M : yM} {x1 : Int} {x2 : Int} {x3 : Int} {wx4 : Option yV} (k : Q x2 M) : XW kX12_standing d (some .int) (wQi Q) 59 [some (.inr (.inr 92)), some (.inl x1), some (.inl x2), some (.inl x3), wx4] [] M := by
  refine x_iload_n rfl rfl ?_
  exact x_ireturn rfl k
theorem eX12_against {d : Nat} {Q : Int → yM → Prop} {M : yM} {x1 : Int} {x2 : Int}  (h : XW kX12_against d (some .int) (wQi Q) 0 [some (.inr (.inr 92)), some (.inl x1), some (.inl x2), none, none, none, none, none, none, none] [] M) : XCi d 173 [.inr (.inr 92), .inl x1, .inl x2] M Q :=
  XC.ofW (Mm := (yX12_against, cX12_against, 10, (some .int), 13, kX12_against)) rfl (rcv_ok sh92) rfl rfl h
theorem uX12_against_0 {d : Nat} {Q : Int → yM → Prop} {M : yM} {x1 : Int} {x2 : Int} (k : ∀ M', M' = (put M 92 0 0) → XW kX12_against d (some .int) (wQi Q) 5 [some (.inr (.inr 92)), some (.inl x1), some (.inl x2), none, none, none, none, none, none, none] [] M') : XW kX12_against d (some .int) (wQi Q) 0 [some (.inr (.inr 92)), some (.inl x1), some (.inl x2), none, none, none, none, none, none, none] [] M := by
  refine x_aload_n rfl rfl ?_
  refine x_iconst 0 rfl (by decide) ?_
  refine x_putI rfl rfl sh92 rfl ?_
  exact k _ rfl
theorem uX12_against_5 {d : Nat} {Q : Int → yM → Prop} {M : yM} {x1 : Int} {x2 : Int} (k : XCi d 168 [.inl x1] M (fun v M' => XW kX12_against (d + 1) (some .int) (wQi Q) 9 [some (.inr (.inr 92)), some (.inl x1), some (.inl x2), none, none, none, none, none, none, none] [.inl v] M')) : XW kX12_against (d + 1) (some .int) (wQi Q) 5 [some (.inr (.inr 92)), some (.inl x1), some (.inl x2), none, none, none, none, none, none, none] [] M := by
  refine x_iload_n rfl rfl ?_
  exact x_calli (args := [.inl x1]) rfl rfl rfl k
theorem uX12_against_9 {d : Nat} {Q : Int → yM → Prop} {M : yM} {x1 : Int} {x2 : Int} {s0 : Int} (h1 : -2147483648 ≤ s0 ∧ s0 < 2147483648) (kt : s0 = 0 → XW kX12_against d (some .int) (wQi Q) 19 [some (.inr (.inr 92)), some (.inl x1), some (.inl x2), none, none, none, none, none, none, none] [] M) (kf : s0 ≠ 0 → XW kX12_against d (some .int) (wQi Q) 12 [some (.inr (.inr 92)), some (.inl x1), some (.inl x2), none, none, none, none, none, none, none] [] M) : XW kX12_against d (some .int) (wQi Q) 9 [some (.inr (.inr 92)), some (.inl x1), some (.inl x2), none, none, none, none, none, none, none] [.inl s0] M := by
  exact x_ifeq rfl h1 kt kf
theorem uX12_against_12 {d : Nat} {Q : Int → yM → Prop} {M : yM} {x1 : Int} {x2 : Int} (k : XCi d 168 [.inl x2] M (fun v M' => XW kX12_against (d + 1) (some .int) (wQi Q) 16 [some (.inr (.inr 92)), some (.inl x1), some (.inl x2), none, none, none, none, none, none, none] [.inl v] M')) : XW kX12_against (d + 1) (some .int) (wQi Q) 12 [some (.inr (.inr 92)), some (.inl x1), some (.inl x2), none, none, none, none, none, none, none] [] M := by
  refine x_iload_n rfl rfl ?_
  exact x_calli (args := [.inl x2]) rfl rfl rfl k
theorem uX12_against_16 {d : Nat} {Q : Int → yM → Prop} {M : yM} {x1 : Int} {x2 : Int} {s0 : Int} (h1 : -2147483648 ≤ s0 ∧ s0 < 2147483648) (kt : s0 ≠ 0 → XW kX12_against d (some .int) (wQi Q) 21 [some (.inr (.inr 92)), some (.inl x1), some (.inl x2), none, none, none, none, none, none, none] [] M) (kf : s0 = 0 → XW kX12_against d (some .int) (wQi Q) 19 [some (.inr (.inr 92)), some (.inl x1), some (.inl x2), none, none, none, none, none, none, none] [] M) : XW kX12_against d (some .int) (wQi Q) 16 [some (.inr (.inr 92)), some (.inl x1), some (.inl x2), none, none, none, none, none, none, none] [.inl s0] M := by
  exact x_ifne rfl h1 kt kf
theorem uX12_against_19 {d : Nat} {Q : Int → yM → Prop} {M : yM} {x1 : Int} {x2 : Int} (k : Q (-1) M) : XW kX12_against d (some .int) (wQi Q) 19 [some (.inr (.inr 92)), some (.inl x1), some (.inl x2), none, none, none, none, none, none, none] [] M := by
  refine x_iconst (-1) rfl (by decide) ?_
  exact x_ireturn rfl k
theorem uX12_against_21 {d : Nat} {Q : Int → yM → Prop} {M : yM} {x1 : Int} {x2 : Int} (k : XCi d 172 [.inr (.inr 92), .inl x1] M (fun v M' => XW kX12_against (d + 1) (some .int) (wQi Q) 26 [some (.inr (.inr 92)), some (.inl x1), some (.inl x2), none, none, none, none, none, none, none] [.inl v] M')) : XW kX12_against (d + 1) (some .int) (wQi Q) 21 [some (.inr (.inr 92)), some (.inl x1), some (.inl x2), none, none, none, none, none, none, none] [] M := by
  refine x_aload_n rfl rfl ?_
  refine x_iload_n rfl rfl ?_
  exact x_calli (args := [.inr (.inr 92), .inl x1]) rfl rfl rfl k
theorem uX12_against_26 {d : Nat} {Q : Int → yM → Prop} {M : yM} {x1 : Int} {x2 : Int} {s0 : Int} (k : XCi d 172 [.inr (.inr 92), .inl x2] M (fun v M' => XW kX12_against (d + 1) (some .int) (wQi Q) 31 [some (.inr (.inr 92)), some (.inl x1), some (.inl x2), none, none, none, none, none, none, none] [.inl v, .inl s0] M')) : XW kX12_against (d + 1) (some .int) (wQi Q) 26 [some (.inr (.inr 92)), some (.inl x1), some (.inl x2), none, none, none, none, none, none, none] [.inl s0] M := by
  refine x_aload_n rfl rfl ?_
  refine x_iload_n rfl rfl ?_
  exact x_calli (args := [.inr (.inr 92), .inl x2]) rfl rfl rfl k
theorem uX12_against_31 {d : Nat} {Q : Int → yM → Prop} {M : yM} {x1 : Int} {x2 : Int} {s0 : Int} {s1 : Int} (k : XCi d 159 [.inl (yor s1 s0)] M (fun v M' => XW kX12_against (d + 1) (some .int) (wQi Q) 41 [some (.inr (.inr 92)), some (.inl x1), some (.inl x2), some (.inl (yor s1 s0)), none, none, none, none, none, none] [.inl v, .inl (ld M 92 2)] M')) : XW kX12_against (d + 1) (some .int) (wQi Q) 31 [some (.inr (.inr 92)), some (.inl x1), some (.inl x2), none, none, none, none, none, none, none] [.inl s0, .inl s1] M := by
  refine x_ior rfl ?_
  refine x_istore_n rfl (Nat.le_of_ble_eq_true rfl) rfl ?_
  refine x_aload_n rfl rfl ?_
  refine x_getI rfl sh92 rfl ?_
  refine x_iload_n rfl rfl ?_
  exact x_calli (args := [.inl (yor s1 s0)]) rfl rfl rfl k
theorem uX12_against_41 {d : Nat} {Q : Int → yM → Prop} {M : yM} {x1 : Int} {x2 : Int} {x3 : Int} {s0 : Int} {s1 : Int} (h1 : -2147483648 ≤ (s1 * s0) ∧ (s1 * s0) < 2147483648) (kt : (s1 * s0) ≤ 12 → XW kX12_against d (some .int) (wQi Q) 54 [some (.inr (.inr 92)), some (.inl x1), some (.inl x2), some (.inl x3), some (.inl (s1 * s0)), none, none, none, none, none] [] M) (kf : (s1 * s0) > 12 → XW kX12_against d (some .int) (wQi Q) 51 [some (.inr (.inr 92)), some (.inl x1), some (.inl x2), some (.inl x3), some (.inl (s1 * s0)), none, none, none, none, none] [] M) : XW kX12_against d (some .int) (wQi Q) 41 [some (.inr (.inr 92)), some (.inl x1), some (.inl x2), some (.inl x3), none, none, none, none, none, none] [.inl s0, .inl s1] M := by
  refine x_imul rfl ?_
  refine x_istore rfl (Nat.le_of_ble_eq_true rfl) rfl ?_
  refine x_iload rfl rfl ?_
  refine x_bipush 12 rfl (by decide) ?_
  exact x_icmple rfl h1 (by decide) kt kf
theorem uX12_against_51 {d : Nat} {Q : Int → yM → Prop} {M : yM} {x1 : Int} {x2 : Int} {x3 : Int} {x4 : Int} (k : Q (-2) M) : XW kX12_against d (some .int) (wQi Q) 51 [some (.inr (.inr 92)), some (.inl x1), some (.inl x2), some (.inl x3), some (.inl x4), none, none, none, none, none] [] M := by
  refine x_bipush (-2) rfl (by decide) ?_
  exact x_ireturn rfl k
theorem uX12_against_54 {d : Nat} {Q : Int → yM → Prop} {M : yM} {x1 : Int} {x2 : Int} {x3 : Int} {x4 : Int} (k : XW kX12_against d (some .int) (wQi Q) 57 [some (.inr (.inr 92)), some (.inl x1), some (.inl x2), some (.inl x3), some (.inl x4), some (.inl 0), none, none, none, none] [] M) : XW kX12_against d (some .int) (wQi Q) 54 [some (.inr (.inr 92)), some (.inl x1), some (.inl x2), some (.inl x3), some (.inl x4), none, none, none, none, none] [] M := by
  refine x_iconst 0 rfl (by decide) ?_
  refine x_istore rfl (Nat.le_of_ble_eq_true rfl) rfl ?_
  exact k
theorem uX12_against_57 {d : Nat} {Q : Int → yM → Prop} {M : yM} {x1 : Int} {x2 : Int} {x3 : Int} {x4 : Int} {x5 : Int} {wx6 : Option yV} {wx7 : Option yV} {wx8 : Option yV} {wx9 : Option yV} (h1 : -2147483648 ≤ x5 ∧ x5 < 2147483648) (kt : x5 ≥ (yshl 1 x4) → XW kX12_against d (some .int) (wQi Q) 228 [some (.inr (.inr 92)), some (.inl x1), some (.inl x2), some (.inl x3), some (.inl x4), some (.inl x5), wx6, wx7, wx8, wx9] [] M) (kf : x5 < (yshl 1 x4) → XW kX12_against d (some .int) (wQi Q) 66 [some (.inr (.inr 92)), some (.inl x1), some (.inl x2), some (.inl x3), some (.inl x4), some (.inl x5), wx6, wx7, wx8, wx9] [] M) : XW kX12_against d (some .int) (wQi Q) 57 [some (.inr (.inr 92)), some (.inl x1), some (.inl x2), some (.inl x3), some (.inl x4), some (.inl x5), wx6, wx7, wx8, wx9] [] M := by
  refine x_iload rfl rfl ?_
  refine x_iconst 1 rfl (by decide) ?_
  refine x_iload rfl rfl ?_
  refine x_ishl rfl ?_
  exact x_icmpge rfl h1 (rng_yshl _ _) kt kf
theorem uX12_against_66 {d : Nat} {Q : Int → yM → Prop} {M : yM} {x1 : Int} {x2 : Int} {x3 : Int} {x4 : Int} {x5 : Int} {wx6 : Option yV} {wx7 : Option yV} {wx8 : Option yV} {wx9 : Option yV} (kt : (yand x3 1) ≠ 1 → XW kX12_against d (some .int) (wQi Q) 87 [some (.inr (.inr 92)), some (.inl x1), some (.inl x2), some (.inl x3), some (.inl x4), some (.inl x5), some (.inl x5), wx7, wx8, wx9] [] M) (kf : (yand x3 1) = 1 → XW kX12_against d (some .int) (wQi Q) 77 [some (.inr (.inr 92)), some (.inl x1), some (.inl x2), some (.inl x3), some (.inl x4), some (.inl x5), some (.inl x5), wx7, wx8, wx9] [] M) : XW kX12_against d (some .int) (wQi Q) 66 [some (.inr (.inr 92)), some (.inl x1), some (.inl x2), some (.inl x3), some (.inl x4), some (.inl x5), wx6, wx7, wx8, wx9] [] M := by
  refine x_iload rfl rfl ?_
  refine x_istore rfl (Nat.le_of_ble_eq_true rfl) rfl ?_
  refine x_iload_n rfl rfl ?_
  refine x_iconst 1 rfl (by decide) ?_
  refine x_iand rfl ?_
  refine x_iconst 1 rfl (by decide) ?_
  exact x_icmpne rfl (rng_yand _ _) (by decide) kt kf
theorem uX12_against_77 {d : Nat} {Q : Int → yM → Prop} {M : yM} {x1 : Int} {x2 : Int} {x3 : Int} {x4 : Int} {x5 : Int} {x6 : Int} {wx7 : Option yV} {wx8 : Option yV} {wx9 : Option yV} (k : XCi d 121 [.inr (.inr 92)] M (fun v M' => XW kX12_against (d + 1) (some .int) (wQi Q) 83 [some (.inr (.inr 92)), some (.inl x1), some (.inl x2), some (.inl x3), some (.inl x4), some (.inl x5), some (.inl x6), wx7, wx8, wx9] [.inl v, .inl x6] M')) : XW kX12_against (d + 1) (some .int) (wQi Q) 77 [some (.inr (.inr 92)), some (.inl x1), some (.inl x2), some (.inl x3), some (.inl x4), some (.inl x5), some (.inl x6), wx7, wx8, wx9] [] M := by
  refine x_iload rfl rfl ?_
  refine x_aload_n rfl rfl ?_
  exact x_calli (args := [.inr (.inr 92)]) rfl rfl rfl k
theorem uX12_against_83 {d : Nat} {Q : Int → yM → Prop} {M : yM} {x1 : Int} {x2 : Int} {x3 : Int} {x4 : Int} {x5 : Int} {x6 : Int} {wx7 : Option yV} {wx8 : Option yV} {wx9 : Option yV} {s0 : Int} {s1 : Int} (k : XW kX12_against d (some .int) (wQi Q) 88 [some (.inr (.inr 92)), some (.inl x1), some (.inl x2), some (.inl x3), some (.inl x4), some (.inl x5), some (.inl x6), wx7, wx8, wx9] [.inl (yand s1 s0)] M) : XW kX12_against d (some .int) (wQi Q) 83 [some (.inr (.inr 92)), some (.inl x1), some (.inl x2), some (.inl x3), some (.inl x4), some (.inl x5), some (.inl x6), wx7, wx8, wx9] [.inl s0, .inl s1] M := by
  refine x_iand rfl ?_
  exact x_goto rfl k
theorem uX12_against_87 {d : Nat} {Q : Int → yM → Prop} {M : yM} {x1 : Int} {x2 : Int} {x3 : Int} {x4 : Int} {x5 : Int} {x6 : Int} {wx7 : Option yV} {wx8 : Option yV} {wx9 : Option yV} (k : XW kX12_against d (some .int) (wQi Q) 88 [some (.inr (.inr 92)), some (.inl x1), some (.inl x2), some (.inl x3), some (.inl x4), some (.inl x5), some (.inl x6), wx7, wx8, wx9] [.inl 0] M) : XW kX12_against d (some .int) (wQi Q) 87 [some (.inr (.inr 92)), some (.inl x1), some (.inl x2), some (.inl x3), some (.inl x4), some (.inl x5), some (.inl x6), wx7, wx8, wx9] [] M := by
  refine x_iconst 0 rfl (by decide) ?_
  exact k
theorem uX12_against_88 {d : Nat} {Q : Int → yM → Prop} {M : yM} {x1 : Int} {x2 : Int} {x3 : Int} {x4 : Int} {x5 : Int} {x6 : Int} {wx7 : Option yV} {wx8 : Option yV} {wx9 : Option yV} {s0 : Int} (kt : (yand x3 1) ≠ 1 → XW kX12_against d (some .int) (wQi Q) 106 [some (.inr (.inr 92)), some (.inl x1), some (.inl x2), some (.inl x3), some (.inl x4), some (.inl x5), some (.inl x6), some (.inl s0), wx8, wx9] [.inl x6] M) (kf : (yand x3 1) = 1 → XW kX12_against d (some .int) (wQi Q) 99 [some (.inr (.inr 92)), some (.inl x1), some (.inl x2), some (.inl x3), some (.inl x4), some (.inl x5), some (.inl x6), some (.inl s0), wx8, wx9] [.inl x6] M) : XW kX12_against d (some .int) (wQi Q) 88 [some (.inr (.inr 92)), some (.inl x1), some (.inl x2), some (.inl x3), some (.inl x4), some (.inl x5), some (.inl x6), wx7, wx8, wx9] [.inl s0] M := by
  refine x_istore rfl (Nat.le_of_ble_eq_true rfl) rfl ?_
  refine x_iload rfl rfl ?_
  refine x_iload_n rfl rfl ?_
  refine x_iconst 1 rfl (by decide) ?_
  refine x_iand rfl ?_
  refine x_iconst 1 rfl (by decide) ?_
  exact x_icmpne rfl (rng_yand _ _) (by decide) kt kf
theorem uX12_against_99 {d : Nat} {Q : Int → yM → Prop} {M : yM} {x1 : Int} {x2 : Int} {x3 : Int} {x4 : Int} {x5 : Int} {x6 : Int} {x7 : Int} {wx8 : Option yV} {wx9 : Option yV} {s0 : Int} (k : XW kX12_against d (some .int) (wQi Q) 107 [some (.inr (.inr 92)), some (.inl x1), some (.inl x2), some (.inl x3), some (.inl x4), some (.inl x5), some (.inl x6), some (.inl x7), wx8, wx9] [.inl (ld M 92 2), .inl s0] M) : XW kX12_against d (some .int) (wQi Q) 99 [some (.inr (.inr 92)), some (.inl x1), some (.inl x2), some (.inl x3), some (.inl x4), some (.inl x5), some (.inl x6), some (.inl x7), wx8, wx9] [.inl s0] M := by
  refine x_aload_n rfl rfl ?_
  refine x_getI rfl sh92 rfl ?_
  exact x_goto rfl k
theorem uX12_against_106 {d : Nat} {Q : Int → yM → Prop} {M : yM} {x1 : Int} {x2 : Int} {x3 : Int} {x4 : Int} {x5 : Int} {x6 : Int} {x7 : Int} {wx8 : Option yV} {wx9 : Option yV} {s0 : Int} (k : XW kX12_against d (some .int) (wQi Q) 107 [some (.inr (.inr 92)), some (.inl x1), some (.inl x2), some (.inl x3), some (.inl x4), some (.inl x5), some (.inl x6), some (.inl x7), wx8, wx9] [.inl 0, .inl s0] M) : XW kX12_against d (some .int) (wQi Q) 106 [some (.inr (.inr 92)), some (.inl x1), some (.inl x2), some (.inl x3), some (.inl x4), some (.inl x5), some (.inl x6), some (.inl x7), wx8, wx9] [.inl s0] M := by
  refine x_iconst 0 rfl (by decide) ?_
  exact k
theorem uX12_against_107 {d : Nat} {Q : Int → yM → Prop} {M : yM} {x1 : Int} {x2 : Int} {x3 : Int} {x4 : Int} {x5 : Int} {x6 : Int} {x7 : Int} {wx8 : Option yV} {wx9 : Option yV} {s0 : Int} {s1 : Int} (kt : (yand (yshr x3 1) 1) ≠ 1 → XW kX12_against d (some .int) (wQi Q) 129 [some (.inr (.inr 92)), some (.inl x1), some (.inl x2), some (.inl x3), some (.inl x4), some (.inl x5), some (.inl (yshr s1 s0)), some (.inl x7), wx8, wx9] [] M) (kf : (yand (yshr x3 1) 1) = 1 → XW kX12_against d (some .int) (wQi Q) 119 [some (.inr (.inr 92)), some (.inl x1), some (.inl x2), some (.inl x3), some (.inl x4), some (.inl x5), some (.inl (yshr s1 s0)), some (.inl x7), wx8, wx9] [] M) : XW kX12_against d (some .int) (wQi Q) 107 [some (.inr (.inr 92)), some (.inl x1), some (.inl x2), some (.inl x3), some (.inl x4), some (.inl x5), some (.inl x6), some (.inl x7), wx8, wx9] [.inl s0, .inl s1] M := by
  refine x_ishr rfl ?_
  refine x_istore rfl (Nat.le_of_ble_eq_true rfl) rfl ?_
  refine x_iload_n rfl rfl ?_
  refine x_iconst 1 rfl (by decide) ?_
  refine x_ishr rfl ?_
  refine x_iconst 1 rfl (by decide) ?_
  refine x_iand rfl ?_
  refine x_iconst 1 rfl (by decide) ?_
  exact x_icmpne rfl (rng_yand _ _) (by decide) kt kf
theorem uX12_against_119 {d : Nat} {Q : Int → yM → Prop} {M : yM} {x1 : Int} {x2 : Int} {x3 : Int} {x4 : Int} {x5 : Int} {x6 : Int} {x7 : Int} {wx8 : Option yV} {wx9 : Option yV} (k : XCi d 121 [.inr (.inr 92)] M (fun v M' => XW kX12_against (d + 1) (some .int) (wQi Q) 125 [some (.inr (.inr 92)), some (.inl x1), some (.inl x2), some (.inl x3), some (.inl x4), some (.inl x5), some (.inl x6), some (.inl x7), wx8, wx9] [.inl v, .inl x6] M')) : XW kX12_against (d + 1) (some .int) (wQi Q) 119 [some (.inr (.inr 92)), some (.inl x1), some (.inl x2), some (.inl x3), some (.inl x4), some (.inl x5), some (.inl x6), some (.inl x7), wx8, wx9] [] M := by
  refine x_iload rfl rfl ?_
  refine x_aload_n rfl rfl ?_
  exact x_calli (args := [.inr (.inr 92)]) rfl rfl rfl k
theorem uX12_against_125 {d : Nat} {Q : Int → yM → Prop} {M : yM} {x1 : Int} {x2 : Int} {x3 : Int} {x4 : Int} {x5 : Int} {x6 : Int} {x7 : Int} {wx8 : Option yV} {wx9 : Option yV} {s0 : Int} {s1 : Int} (k : XW kX12_against d (some .int) (wQi Q) 130 [some (.inr (.inr 92)), some (.inl x1), some (.inl x2), some (.inl x3), some (.inl x4), some (.inl x5), some (.inl x6), some (.inl x7), wx8, wx9] [.inl (yand s1 s0)] M) : XW kX12_against d (some .int) (wQi Q) 125 [some (.inr (.inr 92)), some (.inl x1), some (.inl x2), some (.inl x3), some (.inl x4), some (.inl x5), some (.inl x6), some (.inl x7), wx8, wx9] [.inl s0, .inl s1] M := by
  refine x_iand rfl ?_
  exact x_goto rfl k
theorem uX12_against_129 {d : Nat} {Q : Int → yM → Prop} {M : yM} {x1 : Int} {x2 : Int} {x3 : Int} {x4 : Int} {x5 : Int} {x6 : Int} {x7 : Int} {wx8 : Option yV} {wx9 : Option yV} (k : XW kX12_against d (some .int) (wQi Q) 130 [some (.inr (.inr 92)), some (.inl x1), some (.inl x2), some (.inl x3), some (.inl x4), some (.inl x5), some (.inl x6), some (.inl x7), wx8, wx9] [.inl 0] M) : XW kX12_against d (some .int) (wQi Q) 129 [some (.inr (.inr 92)), some (.inl x1), some (.inl x2), some (.inl x3), some (.inl x4), some (.inl x5), some (.inl x6), some (.inl x7), wx8, wx9] [] M := by
  refine x_iconst 0 rfl (by decide) ?_
  exact k
theorem uX12_against_130 {d : Nat} {Q : Int → yM → Prop} {M : yM} {x1 : Int} {x2 : Int} {x3 : Int} {x4 : Int} {x5 : Int} {x6 : Int} {x7 : Int} {wx8 : Option yV} {wx9 : Option yV} {s0 : Int} (kt : (yand (yshr x3 1) 1) ≠ 1 → XW kX12_against d (some .int) (wQi Q) 150 [some (.inr (.inr 92)), some (.inl x1), some (.inl x2), some (.inl x3), some (.inl x4), some (.inl x5), some (.inl x6), some (.inl x7), some (.inl s0), wx9] [.inl x6] M) (kf : (yand (yshr x3 1) 1) = 1 → XW kX12_against d (some .int) (wQi Q) 143 [some (.inr (.inr 92)), some (.inl x1), some (.inl x2), some (.inl x3), some (.inl x4), some (.inl x5), some (.inl x6), some (.inl x7), some (.inl s0), wx9] [.inl x6] M) : XW kX12_against d (some .int) (wQi Q) 130 [some (.inr (.inr 92)), some (.inl x1), some (.inl x2), some (.inl x3), some (.inl x4), some (.inl x5), some (.inl x6), some (.inl x7), wx8, wx9] [.inl s0] M := by
  refine x_istore rfl (Nat.le_of_ble_eq_true rfl) rfl ?_
  refine x_iload rfl rfl ?_
  refine x_iload_n rfl rfl ?_
  refine x_iconst 1 rfl (by decide) ?_
  refine x_ishr rfl ?_
  refine x_iconst 1 rfl (by decide) ?_
  refine x_iand rfl ?_
  refine x_iconst 1 rfl (by decide) ?_
  exact x_icmpne rfl (rng_yand _ _) (by decide) kt kf
theorem uX12_against_143 {d : Nat} {Q : Int → yM → Prop} {M : yM} {x1 : Int} {x2 : Int} {x3 : Int} {x4 : Int} {x5 : Int} {x6 : Int} {x7 : Int} {x8 : Int} {wx9 : Option yV} {s0 : Int} (k : XW kX12_against d (some .int) (wQi Q) 151 [some (.inr (.inr 92)), some (.inl x1), some (.inl x2), some (.inl x3), some (.inl x4), some (.inl x5), some (.inl x6), some (.inl x7), some (.inl x8), wx9] [.inl (ld M 92 2), .inl s0] M) : XW kX12_against d (some .int) (wQi Q) 143 [some (.inr (.inr 92)), some (.inl x1), some (.inl x2), some (.inl x3), some (.inl x4), some (.inl x5), some (.inl x6), some (.inl x7), some (.inl x8), wx9] [.inl s0] M := by
  refine x_aload_n rfl rfl ?_
  refine x_getI rfl sh92 rfl ?_
  exact x_goto rfl k
theorem uX12_against_150 {d : Nat} {Q : Int → yM → Prop} {M : yM} {x1 : Int} {x2 : Int} {x3 : Int} {x4 : Int} {x5 : Int} {x6 : Int} {x7 : Int} {x8 : Int} {wx9 : Option yV} {s0 : Int} (k : XW kX12_against d (some .int) (wQi Q) 151 [some (.inr (.inr 92)), some (.inl x1), some (.inl x2), some (.inl x3), some (.inl x4), some (.inl x5), some (.inl x6), some (.inl x7), some (.inl x8), wx9] [.inl 0, .inl s0] M) : XW kX12_against d (some .int) (wQi Q) 150 [some (.inr (.inr 92)), some (.inl x1), some (.inl x2), some (.inl x3), some (.inl x4), some (.inl x5), some (.inl x6), some (.inl x7), some (.inl x8), wx9] [.inl s0] M := by
  refine x_iconst 0 rfl (by decide) ?_
  exact k
theorem uX12_against_151 {d : Nat} {Q : Int → yM → Prop} {M : yM} {x1 : Int} {x2 : Int} {x3 : Int} {x4 : Int} {x5 : Int} {x6 : Int} {x7 : Int} {x8 : Int} {wx9 : Option yV} {s0 : Int} {s1 : Int} (kt : (yand (yshr x3 2) 1) ≠ 1 → XW kX12_against d (some .int) (wQi Q) 173 [some (.inr (.inr 92)), some (.inl x1), some (.inl x2), some (.inl x3), some (.inl x4), some (.inl x5), some (.inl (yshr s1 s0)), some (.inl x7), some (.inl x8), wx9] [] M) (kf : (yand (yshr x3 2) 1) = 1 → XW kX12_against d (some .int) (wQi Q) 163 [some (.inr (.inr 92)), some (.inl x1), some (.inl x2), some (.inl x3), some (.inl x4), some (.inl x5), some (.inl (yshr s1 s0)), some (.inl x7), some (.inl x8), wx9] [] M) : XW kX12_against d (some .int) (wQi Q) 151 [some (.inr (.inr 92)), some (.inl x1), some (.inl x2), some (.inl x3), some (.inl x4), some (.inl x5), some (.inl x6), some (.inl x7), some (.inl x8), wx9] [.inl s0, .inl s1] M := by
  refine x_ishr rfl ?_
  refine x_istore rfl (Nat.le_of_ble_eq_true rfl) rfl ?_
  refine x_iload_n rfl rfl ?_
  refine x_iconst 2 rfl (by decide) ?_
  refine x_ishr rfl ?_
  refine x_iconst 1 rfl (by decide) ?_
  refine x_iand rfl ?_
  refine x_iconst 1 rfl (by decide) ?_
  exact x_icmpne rfl (rng_yand _ _) (by decide) kt kf
theorem uX12_against_163 {d : Nat} {Q : Int → yM → Prop} {M : yM} {x1 : Int} {x2 : Int} {x3 : Int} {x4 : Int} {x5 : Int} {x6 : Int} {x7 : Int} {x8 : Int} {wx9 : Option yV} (k : XCi d 121 [.inr (.inr 92)] M (fun v M' => XW kX12_against (d + 1) (some .int) (wQi Q) 169 [some (.inr (.inr 92)), some (.inl x1), some (.inl x2), some (.inl x3), some (.inl x4), some (.inl x5), some (.inl x6), some (.inl x7), some (.inl x8), wx9] [.inl v, .inl x6] M')) : XW kX12_against (d + 1) (some .int) (wQi Q) 163 [some (.inr (.inr 92)), some (.inl x1), some (.inl x2), some (.inl x3), some (.inl x4), some (.inl x5), some (.inl x6), some (.inl x7), some (.inl x8), wx9] [] M := by
  refine x_iload rfl rfl ?_
  refine x_aload_n rfl rfl ?_
  exact x_calli (args := [.inr (.inr 92)]) rfl rfl rfl k
theorem uX12_against_169 {d : Nat} {Q : Int → yM → Prop} {M : yM} {x1 : Int} {x2 : Int} {x3 : Int} {x4 : Int} {x5 : Int} {x6 : Int} {x7 : Int} {x8 : Int} {wx9 : Option yV} {s0 : Int} {s1 : Int} (k : XW kX12_against d (some .int) (wQi Q) 174 [some (.inr (.inr 92)), some (.inl x1), some (.inl x2), some (.inl x3), some (.inl x4), some (.inl x5), some (.inl x6), some (.inl x7), some (.inl x8), wx9] [.inl (yand s1 s0)] M) : XW kX12_against d (some .int) (wQi Q) 169 [some (.inr (.inr 92)), some (.inl x1), some (.inl x2), some (.inl x3), some (.inl x4), some (.inl x5), some (.inl x6), some (.inl x7), some (.inl x8), wx9] [.inl s0, .inl s1] M := by
  refine x_iand rfl ?_
  exact x_goto rfl k
theorem uX12_against_173 {d : Nat} {Q : Int → yM → Prop} {M : yM} {x1 : Int} {x2 : Int} {x3 : Int} {x4 : Int} {x5 : Int} {x6 : Int} {x7 : Int} {x8 : Int} {wx9 : Option yV} (k : XW kX12_against d (some .int) (wQi Q) 174 [some (.inr (.inr 92)), some (.inl x1), some (.inl x2), some (.inl x3), some (.inl x4), some (.inl x5), some (.inl x6), some (.inl x7), some (.inl x8), wx9] [.inl 0] M) : XW kX12_against d (some .int) (wQi Q) 173 [some (.inr (.inr 92)), some (.inl x1), some (.inl x2), some (.inl x3), some (.inl x4), some (.inl x5), some (.inl x6), some (.inl x7), some (.inl x8), wx9] [] M := by
  refine x_iconst 0 rfl (by decide) ?_
  exact k
theorem uX12_against_174 {d : Nat} {Q : Int → yM → Prop} {M : yM} {x1 : Int} {x2 : Int} {x3 : Int} {x4 : Int} {x5 : Int} {x6 : Int} {x7 : Int} {x8 : Int} {wx9 : Option yV} {s0 : Int} (k : XCi d 170 [.inr (.inr 92), .inl x1, .inl x7, .inl x8, .inl s0] M (fun v M' => XW kX12_against (d + 1) (some .int) (wQi Q) 187 [some (.inr (.inr 92)), some (.inl x1), some (.inl x2), some (.inl x3), some (.inl x4), some (.inl x5), some (.inl x6), some (.inl x7), some (.inl x8), some (.inl s0)] [.inl v] M')) : XW kX12_against (d + 1) (some .int) (wQi Q) 174 [some (.inr (.inr 92)), some (.inl x1), some (.inl x2), some (.inl x3), some (.inl x4), some (.inl x5), some (.inl x6), some (.inl x7), some (.inl x8), wx9] [.inl s0] M := by
  refine x_istore rfl (Nat.le_of_ble_eq_true rfl) rfl ?_
  refine x_aload_n rfl rfl ?_
  refine x_iload_n rfl rfl ?_
  refine x_iload rfl rfl ?_
  refine x_iload rfl rfl ?_
  refine x_iload rfl rfl ?_
  exact x_calli (args := [.inr (.inr 92), .inl x1, .inl x7, .inl x8, .inl s0]) rfl rfl rfl k
theorem uX12_against_187 {d : Nat} {Q : Int → yM → Prop} {M : yM} {x1 : Int} {x2 : Int} {x3 : Int} {x4 : Int} {x5 : Int} {x6 : Int} {x7 : Int} {x8 : Int} {x9 : Int} {s0 : Int} (k : XCi d 170 [.inr (.inr 92), .inl x2, .inl x7, .inl x8, .inl x9] M (fun v M' => XW kX12_against (d + 1) (some .int) (wQi Q) 198 [some (.inr (.inr 92)), some (.inl x1), some (.inl x2), some (.inl x3), some (.inl x4), some (.inl x5), some (.inl x6), some (.inl x7), some (.inl x8), some (.inl x9)] [.inl v, .inl s0] M')) : XW kX12_against (d + 1) (some .int) (wQi Q) 187 [some (.inr (.inr 92)), some (.inl x1), some (.inl x2), some (.inl x3), some (.inl x4), some (.inl x5), some (.inl x6), some (.inl x7), some (.inl x8), some (.inl x9)] [.inl s0] M := by
  refine x_aload_n rfl rfl ?_
  refine x_iload_n rfl rfl ?_
  refine x_iload rfl rfl ?_
  refine x_iload rfl rfl ?_
  refine x_iload rfl rfl ?_
  exact x_calli (args := [.inr (.inr 92), .inl x2, .inl x7, .inl x8, .inl x9]) rfl rfl rfl k
theorem uX12_against_198 {d : Nat} {Q : Int → yM → Prop} {M : yM} {x1 : Int} {x2 : Int} {x3 : Int} {x4 : Int} {x5 : Int} {x6 : Int} {x7 : Int} {x8 : Int} {x9 : Int} {s0 : Int} {s1 : Int} (h1 : -2147483648 ≤ s1 ∧ s1 < 2147483648) (h2 : -2147483648 ≤ s0 ∧ s0 < 2147483648) (kt : s1 = s0 → XW kX12_against d (some .int) (wQi Q) 222 [some (.inr (.inr 92)), some (.inl x1), some (.inl x2), some (.inl x3), some (.inl x4), some (.inl x5), some (.inl x6), some (.inl x7), some (.inl x8), some (.inl x9)] [] M) (kf : s1 ≠ s0 → XW kX12_against d (some .int) (wQi Q) 201 [some (.inr (.inr 92)), some (.inl x1), some (.inl x2), some (.inl x3), some (.inl x4), some (.inl x5), some (.inl x6), some (.inl x7), some (.inl x8), some (.inl x9)] [] M) : XW kX12_against d (some .int) (wQi Q) 198 [some (.inr (.inr 92)), some (.inl x1), some (.inl x2), some (.inl x3), some (.inl x4), some (.inl x5), some (.inl x6), some (.inl x7), some (.inl x8), some (.inl x9)] [.inl s0, .inl s1] M := by
  exact x_icmpeq rfl h1 h2 kt kf
theorem uX12_against_201 {d : Nat} {Q : Int → yM → Prop} {M : yM} {x1 : Int} {x2 : Int} {x3 : Int} {x4 : Int} {x5 : Int} {x6 : Int} {x7 : Int} {x8 : Int} {x9 : Int} (k : Q ((x7 + (yshl x8 (ld M 92 2))) + (yshl x9 (2 * (ld M 92 2)))) M) : XW kX12_against d (some .int) (wQi Q) 201 [some (.inr (.inr 92)), some (.inl x1), some (.inl x2), some (.inl x3), some (.inl x4), some (.inl x5), some (.inl x6), some (.inl x7), some (.inl x8), some (.inl x9)] [] M := by
  refine x_iload rfl rfl ?_
  refine x_iload rfl rfl ?_
  refine x_aload_n rfl rfl ?_
  refine x_getI rfl sh92 rfl ?_
  refine x_ishl rfl ?_
  refine x_iadd rfl ?_
  refine x_iload rfl rfl ?_
  refine x_iconst 2 rfl (by decide) ?_
  refine x_aload_n rfl rfl ?_
  refine x_getI rfl sh92 rfl ?_
  refine x_imul rfl ?_
  refine x_ishl rfl ?_
  refine x_iadd rfl ?_
  exact x_ireturn rfl k
theorem uX12_against_222 {d : Nat} {Q : Int → yM → Prop} {M : yM} {x1 : Int} {x2 : Int} {x3 : Int} {x4 : Int} {x5 : Int} {x6 : Int} {x7 : Int} {x8 : Int} {x9 : Int} (k : XW kX12_against d (some .int) (wQi Q) 57 [some (.inr (.inr 92)), some (.inl x1), some (.inl x2), some (.inl x3), some (.inl x4), some (.inl (x5 + 1)), some (.inl x6), some (.inl x7), some (.inl x8), some (.inl x9)] [] M) : XW kX12_against d (some .int) (wQi Q) 222 [some (.inr (.inr 92)), some (.inl x1), some (.inl x2), some (.inl x3), some (.inl x4), some (.inl x5), some (.inl x6), some (.inl x7), some (.inl x8), some (.inl x9)] [] M := by
  refine x_iinc 1 rfl (by decide) rfl rfl ?_
  exact x_goto rfl k
theorem uX12_against_228 {d : Nat} {Q : Int → yM → Prop} {M : yM} {x1 : Int} {x2 : Int} {x3 : Int} {x4 : Int} {x5 : Int} {wx6 : Option yV} {wx7 : Option yV} {wx8 : Option yV} {wx9 : Option yV} (k : Q (-9) M) : XW kX12_against d (some .int) (wQi Q) 228 [some (.inr (.inr 92)), some (.inl x1), some (.inl x2), some (.inl x3), some (.inl x4), some (.inl x5), wx6, wx7, wx8, wx9] [] M := by
  refine x_bipush (-9) rfl (by decide) ?_
  exact x_ireturn rfl k
theorem eX12_isWell {d : Nat} {Q : Int → yM → Prop} {M : yM} {x1 : Int} {x2 : Int}  (h : XW kX12_isWell d (some .boolean) (wQi Q) 0 [some (.inr (.inr 92)), some (.inl x1), some (.inl x2), none, none] [] M) : XCi d 174 [.inr (.inr 92), .inl x1, .inl x2] M Q :=
  XC.ofW (Mm := (yX12_isWell, cX12_isWell, 5, (some .boolean), 13, kX12_isWell)) rfl (rcv_ok sh92) rfl rfl h
theorem uX12_isWell_0 {d : Nat} {Q : Int → yM → Prop} {M : yM} {x1 : Int} {x2 : Int} (k : XW kX12_isWell d (some .boolean) (wQi Q) 5 [some (.inr (.inr 92)), some (.inl x1), some (.inl x2), some (.inl 1), some (.inl 0)] [] M) : XW kX12_isWell d (some .boolean) (wQi Q) 0 [some (.inr (.inr 92)), some (.inl x1), some (.inl x2), none, none] [] M := by
  refine x_iconst 1 rfl (by decide) ?_
  refine x_istore_n rfl (Nat.le_of_ble_eq_true rfl) rfl ?_
  refine x_iconst 0 rfl (by decide) ?_
  refine x_istore rfl (Nat.le_of_ble_eq_true rfl) rfl ?_
  exact k
theorem uX12_isWell_5 {d : Nat} {Q : Int → yM → Prop} {M : yM} {x1 : Int} {x2 : Int} {x3 : Int} {x4 : Int} (h1 : -2147483648 ≤ x4 ∧ x4 < 2147483648) (h2 : -2147483648 ≤ x1 ∧ x1 < 2147483648) (kt : x4 ≥ x1 → XW kX12_isWell d (some .boolean) (wQi Q) 58 [some (.inr (.inr 92)), some (.inl x1), some (.inl x2), some (.inl x3), some (.inl x4)] [] M) (kf : x4 < x1 → XW kX12_isWell d (some .boolean) (wQi Q) 11 [some (.inr (.inr 92)), some (.inl x1), some (.inl x2), some (.inl x3), some (.inl x4)] [] M) : XW kX12_isWell d (some .boolean) (wQi Q) 5 [some (.inr (.inr 92)), some (.inl x1), some (.inl x2), some (.inl x3), some (.inl x4)] [] M := by
  refine x_iload rfl rfl ?_
  refine x_iload_n rfl rfl ?_
  exact x_icmpge rfl h1 h2 kt kf
theorem uX12_isWell_11 {d : Nat} {Q : Int → yM → Prop} {M : yM} {x1 : Int} {x2 : Int} {x3 : Int} {x4 : Int} (h1 : -2147483648 ≤ x3 ∧ x3 < 2147483648) (kt : x3 = 0 → XW kX12_isWell d (some .boolean) (wQi Q) 58 [some (.inr (.inr 92)), some (.inl x1), some (.inl x2), some (.inl x3), some (.inl x4)] [] M) (kf : x3 ≠ 0 → XW kX12_isWell d (some .boolean) (wQi Q) 15 [some (.inr (.inr 92)), some (.inl x1), some (.inl x2), some (.inl x3), some (.inl x4)] [] M) : XW kX12_isWell d (some .boolean) (wQi Q) 11 [some (.inr (.inr 92)), some (.inl x1), some (.inl x2), some (.inl x3), some (.inl x4)] [] M := by
  refine x_iload_n rfl rfl ?_
  exact x_ifeq rfl h1 kt kf
theorem uX12_isWell_15 {d : Nat} {Q : Int → yM → Prop} {M : yM} {x1 : Int} {x2 : Int} {x3 : Int} {x4 : Int} (h1 : 0 ≤ ((5 * x4) + x1) ∧ ((5 * x4) + x1) < 25) (h2 : 0 ≤ ((5 * x1) + x2) ∧ ((5 * x1) + x2) < 25) (h3 : 0 ≤ ((5 * x4) + x2) ∧ ((5 * x4) + x2) < 25) (k : XCi d 125 [.inr (.inr 92), .inl (ld M 112 ((5 * x4) + x1)), .inl (ld M 112 ((5 * x1) + x2)), .inl (ld M 112 ((5 * x4) + x2))] M (fun v M' => XW kX12_isWell (d + 1) (some .boolean) (wQi Q) 51 [some (.inr (.inr 92)), some (.inl x1), some (.inl x2), some (.inl x3), some (.inl x4)] [.inl v] M')) : XW kX12_isWell (d + 1) (some .boolean) (wQi Q) 15 [some (.inr (.inr 92)), some (.inl x1), some (.inl x2), some (.inl x3), some (.inl x4)] [] M := by
  refine x_aload_n rfl rfl ?_
  refine x_aload_n rfl rfl ?_
  refine x_getR rfl sh92 rfl ?_
  refine x_iconst 5 rfl (by decide) ?_
  refine x_iload rfl rfl ?_
  refine x_imul rfl ?_
  refine x_iload_n rfl rfl ?_
  refine x_iadd rfl ?_
  refine x_iaload rfl ⟨sh112, Nat.le_of_ble_eq_true rfl⟩ h1 ?_
  refine x_aload_n rfl rfl ?_
  refine x_getR rfl sh92 rfl ?_
  refine x_iconst 5 rfl (by decide) ?_
  refine x_iload_n rfl rfl ?_
  refine x_imul rfl ?_
  refine x_iload_n rfl rfl ?_
  refine x_iadd rfl ?_
  refine x_iaload rfl ⟨sh112, Nat.le_of_ble_eq_true rfl⟩ h2 ?_
  refine x_aload_n rfl rfl ?_
  refine x_getR rfl sh92 rfl ?_
  refine x_iconst 5 rfl (by decide) ?_
  refine x_iload rfl rfl ?_
  refine x_imul rfl ?_
  refine x_iload_n rfl rfl ?_
  refine x_iadd rfl ?_
  refine x_iaload rfl ⟨sh112, Nat.le_of_ble_eq_true rfl⟩ h3 ?_
  exact x_calli (args := [.inr (.inr 92), .inl (ld M 112 ((5 * x4) + x1)), .inl (ld M 112 ((5 * x1) + x2)), .inl (ld M 112 ((5 * x4) + x2))]) rfl rfl rfl k
theorem uX12_isWell_51 {d : Nat} {Q : Int → yM → Prop} {M : yM} {x1 : Int} {x2 : Int} {x3 : Int} {x4 : Int} {s0 : Int} (k : XW kX12_isWell d (some .boolean) (wQi Q) 5 [some (.inr (.inr 92)), some (.inl x1), some (.inl x2), some (.inl s0), some (.inl (x4 + 1))] [] M) : XW kX12_isWell d (some .boolean) (wQi Q) 51 [some (.inr (.inr 92)), some (.inl x1), some (.inl x2), some (.inl x3), some (.inl x4)] [.inl s0] M := by
  refine x_istore_n rfl (Nat.le_of_ble_eq_true rfl) rfl ?_
  refine x_iinc 1 rfl (by decide) rfl rfl ?_
  exact x_goto rfl k
theorem uX12_isWell_58 {d : Nat} {Q : Int → yM → Prop} {M : yM} {x1 : Int} {x2 : Int} {x3 : Int} {x4 : Int} (h1 : x3 = 0 ∨ x3 = 1) (k : Q x3 M) : XW kX12_isWell d (some .boolean) (wQi Q) 58 [some (.inr (.inr 92)), some (.inl x1), some (.inl x2), some (.inl x3), some (.inl x4)] [] M := by
  refine x_iload_n rfl rfl ?_
  exact x_zreturn rfl h1 k
theorem eX12_isWhole {d : Nat} {Q : Int → yM → Prop} {M : yM} {x1 : Int}  (h : XW kX12_isWhole d (some .boolean) (wQi Q) 0 [some (.inr (.inr 92)), some (.inl x1), none, none, none, none, none, none, none, none] [] M) : XCi d 175 [.inr (.inr 92), .inl x1] M Q :=
  XC.ofW (Mm := (yX12_isWhole, cX12_isWhole, 10, (some .boolean), 13, kX12_isWhole)) rfl (rcv_ok sh92) rfl rfl h
theorem uX12_isWhole_0 {d : Nat} {Q : Int → yM → Prop} {M : yM} {x1 : Int} (k : XW kX12_isWhole d (some .boolean) (wQi Q) 4 [some (.inr (.inr 92)), some (.inl x1), some (.inl 1), some (.inl 0), none, none, none, none, none, none] [] M) : XW kX12_isWhole d (some .boolean) (wQi Q) 0 [some (.inr (.inr 92)), some (.inl x1), none, none, none, none, none, none, none, none] [] M := by
  refine x_iconst 1 rfl (by decide) ?_
  refine x_istore_n rfl (Nat.le_of_ble_eq_true rfl) rfl ?_
  refine x_iconst 0 rfl (by decide) ?_
  refine x_istore_n rfl (Nat.le_of_ble_eq_true rfl) rfl ?_
  exact k
theorem uX12_isWhole_4 {d : Nat} {Q : Int → yM → Prop} {M : yM} {x1 : Int} {x2 : Int} {x3 : Int} {wx4 : Option yV} {wx5 : Option yV} {wx6 : Option yV} {wx7 : Option yV} {wx8 : Option yV} {wx9 : Option yV} (h1 : -2147483648 ≤ x3 ∧ x3 < 2147483648) (h2 : -2147483648 ≤ x1 ∧ x1 < 2147483648) (kt : x3 ≥ x1 → XW kX12_isWhole d (some .boolean) (wQi Q) 192 [some (.inr (.inr 92)), some (.inl x1), some (.inl x2), some (.inl x3), wx4, wx5, wx6, wx7, wx8, wx9] [] M) (kf : x3 < x1 → XW kX12_isWhole d (some .boolean) (wQi Q) 9 [some (.inr (.inr 92)), some (.inl x1), some (.inl x2), some (.inl x3), wx4, wx5, wx6, wx7, wx8, wx9] [] M) : XW kX12_isWhole d (some .boolean) (wQi Q) 4 [some (.inr (.inr 92)), some (.inl x1), some (.inl x2), some (.inl x3), wx4, wx5, wx6, wx7, wx8, wx9] [] M := by
  refine x_iload_n rfl rfl ?_
  refine x_iload_n rfl rfl ?_
  exact x_icmpge rfl h1 h2 kt kf
theorem uX12_isWhole_9 {d : Nat} {Q : Int → yM → Prop} {M : yM} {x1 : Int} {x2 : Int} {x3 : Int} {wx4 : Option yV} {wx5 : Option yV} {wx6 : Option yV} {wx7 : Option yV} {wx8 : Option yV} {wx9 : Option yV} (k : XW kX12_isWhole d (some .boolean) (wQi Q) 12 [some (.inr (.inr 92)), some (.inl x1), some (.inl x2), some (.inl x3), some (.inl 0), wx5, wx6, wx7, wx8, wx9] [] M) : XW kX12_isWhole d (some .boolean) (wQi Q) 9 [some (.inr (.inr 92)), some (.inl x1), some (.inl x2), some (.inl x3), wx4, wx5, wx6, wx7, wx8, wx9] [] M := by
  refine x_iconst 0 rfl (by decide) ?_
  refine x_istore rfl (Nat.le_of_ble_eq_true rfl) rfl ?_
  exact k
theorem uX12_isWhole_12 {d : Nat} {Q : Int → yM → Prop} {M : yM} {x1 : Int} {x2 : Int} {x3 : Int} {x4 : Int} {wx5 : Option yV} {wx6 : Option yV} {wx7 : Option yV} {wx8 : Option yV} {wx9 : Option yV} (h1 : -2147483648 ≤ x4 ∧ x4 < 2147483648) (h2 : -2147483648 ≤ x1 ∧ x1 < 2147483648) (kt : x4 ≥ x1 → XW kX12_isWhole d (some .boolean) (wQi Q) 186 [some (.inr (.inr 92)), some (.inl x1), some (.inl x2), some (.inl x3), some (.inl x4), wx5, wx6, wx7, wx8, wx9] [] M) (kf : x4 < x1 → XW kX12_isWhole d (some .boolean) (wQi Q) 18 [some (.inr (.inr 92)), some (.inl x1), some (.inl x2), some (.inl x3), some (.inl x4), wx5, wx6, wx7, wx8, wx9] [] M) : XW kX12_isWhole d (some .boolean) (wQi Q) 12 [some (.inr (.inr 92)), some (.inl x1), some (.inl x2), some (.inl x3), some (.inl x4), wx5, wx6, wx7, wx8, wx9] [] M := by
  refine x_iload rfl rfl ?_
  refine x_iload_n rfl rfl ?_
  exact x_icmpge rfl h1 h2 kt kf
theorem uX12_isWhole_18 {d : Nat} {Q : Int → yM → Prop} {M : yM} {x1 : Int} {x2 : Int} {x3 : Int} {x4 : Int} {wx5 : Option yV} {wx6 : Option yV} {wx7 : Option yV} {wx8 : Option yV} {wx9 : Option yV} (h1 : -2147483648 ≤ x3 ∧ x3 < 2147483648) (h2 : -2147483648 ≤ x4 ∧ x4 < 2147483648) (kt : x3 = x4 → XW kX12_isWhole d (some .boolean) (wQi Q) 180 [some (.inr (.inr 92)), some (.inl x1), some (.inl x2), some (.inl x3), some (.inl x4), wx5, wx6, wx7, wx8, wx9] [] M) (kf : x3 ≠ x4 → XW kX12_isWhole d (some .boolean) (wQi Q) 24 [some (.inr (.inr 92)), some (.inl x1), some (.inl x2), some (.inl x3), some (.inl x4), wx5, wx6, wx7, wx8, wx9] [] M) : XW kX12_isWhole d (some .boolean) (wQi Q) 18 [some (.inr (.inr 92)), some (.inl x1), some (.inl x2), some (.inl x3), some (.inl x4), wx5, wx6, wx7, wx8, wx9] [] M := by
  refine x_iload_n rfl rfl ?_
  refine x_iload rfl rfl ?_
  exact x_icmpeq rfl h1 h2 kt kf
theorem uX12_isWhole_24 {d : Nat} {Q : Int → yM → Prop} {M : yM} {x1 : Int} {x2 : Int} {x3 : Int} {x4 : Int} {wx5 : Option yV} {wx6 : Option yV} {wx7 : Option yV} {wx8 : Option yV} {wx9 : Option yV} (h1 : 0 ≤ ((5 * x3) + x4) ∧ ((5 * x3) + x4) < 25) (k : XW kX12_isWhole d (some .boolean) (wQi Q) 47 [some (.inr (.inr 92)), some (.inl x1), some (.inl (yor x2 (yshl 1 (ld M 112 ((5 * x3) + x4))))), some (.inl x3), some (.inl x4), some (.inl (ld M 112 ((5 * x3) + x4))), some (.inl 1), wx7, wx8, wx9] [] M) : XW kX12_isWhole d (some .boolean) (wQi Q) 24 [some (.inr (.inr 92)), some (.inl x1), some (.inl x2), some (.inl x3), some (.inl x4), wx5, wx6, wx7, wx8, wx9] [] M := by
  refine x_aload_n rfl rfl ?_
  refine x_getR rfl sh92 rfl ?_
  refine x_iconst 5 rfl (by decide) ?_
  refine x_iload_n rfl rfl ?_
  refine x_imul rfl ?_
  refine x_iload rfl rfl ?_
  refine x_iadd rfl ?_
  refine x_iaload rfl ⟨sh112, Nat.le_of_ble_eq_true rfl⟩ h1 ?_
  refine x_istore rfl (Nat.le_of_ble_eq_true rfl) rfl ?_
  refine x_iload_n rfl rfl ?_
  refine x_iconst 1 rfl (by decide) ?_
  refine x_iload rfl rfl ?_
  refine x_ishl rfl ?_
  refine x_ior rfl ?_
  refine x_istore_n rfl (Nat.le_of_ble_eq_true rfl) rfl ?_
  refine x_iconst 1 rfl (by decide) ?_
  refine x_istore rfl (Nat.le_of_ble_eq_true rfl) rfl ?_
  exact k
theorem uX12_isWhole_47 {d : Nat} {Q : Int → yM → Prop} {M : yM} {x1 : Int} {x2 : Int} {x3 : Int} {x4 : Int} {x5 : Int} {x6 : Int} {wx7 : Option yV} {wx8 : Option yV} {wx9 : Option yV} (h1 : -2147483648 ≤ x6 ∧ x6 < 2147483648) (kt : x6 ≥ (ld M 92 2) → XW kX12_isWhole d (some .boolean) (wQi Q) 180 [some (.inr (.inr 92)), some (.inl x1), some (.inl x2), some (.inl x3), some (.inl x4), some (.inl x5), some (.inl x6), wx7, wx8, wx9] [] M) (kf : x6 < (ld M 92 2) → XW kX12_isWhole d (some .boolean) (wQi Q) 56 [some (.inr (.inr 92)), some (.inl x1), some (.inl x2), some (.inl x3), some (.inl x4), some (.inl x5), some (.inl x6), wx7, wx8, wx9] [] M) : XW kX12_isWhole d (some .boolean) (wQi Q) 47 [some (.inr (.inr 92)), some (.inl x1), some (.inl x2), some (.inl x3), some (.inl x4), some (.inl x5), some (.inl x6), wx7, wx8, wx9] [] M := by
  refine x_iload rfl rfl ?_
  refine x_aload_n rfl rfl ?_
  refine x_getI rfl sh92 rfl ?_
  exact x_icmpge rfl h1 (rng_ld _ _ _) kt kf
theorem uX12_isWhole_56 {d : Nat} {Q : Int → yM → Prop} {M : yM} {x1 : Int} {x2 : Int} {x3 : Int} {x4 : Int} {x5 : Int} {x6 : Int} {wx7 : Option yV} {wx8 : Option yV} {wx9 : Option yV} (k : XW kX12_isWhole d (some .boolean) (wQi Q) 59 [some (.inr (.inr 92)), some (.inl x1), some (.inl x2), some (.inl x3), some (.inl x4), some (.inl x5), some (.inl x6), some (.inl 1), wx8, wx9] [] M) : XW kX12_isWhole d (some .boolean) (wQi Q) 56 [some (.inr (.inr 92)), some (.inl x1), some (.inl x2), some (.inl x3), some (.inl x4), some (.inl x5), some (.inl x6), wx7, wx8, wx9] [] M := by
  refine x_iconst 1 rfl (by decide) ?_
  refine x_istore rfl (Nat.le_of_ble_eq_true rfl) rfl ?_
  exact k
theorem uX12_isWhole_59 {d : Nat} {Q : Int → yM → Prop} {M : yM} {x1 : Int} {x2 : Int} {x3 : Int} {x4 : Int} {x5 : Int} {x6 : Int} {x7 : Int} {wx8 : Option yV} {wx9 : Option yV} (h1 : -2147483648 ≤ x7 ∧ x7 < 2147483648) (kt : x7 ≥ (ld M 92 2) → XW kX12_isWhole d (some .boolean) (wQi Q) 174 [some (.inr (.inr 92)), some (.inl x1), some (.inl x2), some (.inl x3), some (.inl x4), some (.inl x5), some (.inl x6), some (.inl x7), wx8, wx9] [] M) (kf : x7 < (ld M 92 2) → XW kX12_isWhole d (some .boolean) (wQi Q) 68 [some (.inr (.inr 92)), some (.inl x1), some (.inl x2), some (.inl x3), some (.inl x4), some (.inl x5), some (.inl x6), some (.inl x7), wx8, wx9] [] M) : XW kX12_isWhole d (some .boolean) (wQi Q) 59 [some (.inr (.inr 92)), some (.inl x1), some (.inl x2), some (.inl x3), some (.inl x4), some (.inl x5), some (.inl x6), some (.inl x7), wx8, wx9] [] M := by
  refine x_iload rfl rfl ?_
  refine x_aload_n rfl rfl ?_
  refine x_getI rfl sh92 rfl ?_
  exact x_icmpge rfl h1 (rng_ld _ _ _) kt kf
theorem uX12_isWhole_68 {d : Nat} {Q : Int → yM → Prop} {M : yM} {x1 : Int} {x2 : Int} {x3 : Int} {x4 : Int} {x5 : Int} {x6 : Int} {x7 : Int} {wx8 : Option yV} {wx9 : Option yV} (k : XCi d 125 [.inr (.inr 92), .inl x6, .inl x7, .inl x5] M (fun v M' => XW kX12_isWhole (d + 1) (some .boolean) (wQi Q) 78 [some (.inr (.inr 92)), some (.inl x1), some (.inl x2), some (.inl x3), some (.inl x4), some (.inl x5), some (.inl x6), some (.inl x7), wx8, wx9] [.inl v] M')) : XW kX12_isWhole (d + 1) (some .boolean) (wQi Q) 68 [some (.inr (.inr 92)), some (.inl x1), some (.inl x2), some (.inl x3), some (.inl x4), some (.inl x5), some (.inl x6), some (.inl x7), wx8, wx9] [] M := by
  refine x_aload_n rfl rfl ?_
  refine x_iload rfl rfl ?_
  refine x_iload rfl rfl ?_
  refine x_iload rfl rfl ?_
  exact x_calli (args := [.inr (.inr 92), .inl x6, .inl x7, .inl x5]) rfl rfl rfl k
theorem uX12_isWhole_78 {d : Nat} {Q : Int → yM → Prop} {M : yM} {x1 : Int} {x2 : Int} {x3 : Int} {x4 : Int} {x5 : Int} {x6 : Int} {x7 : Int} {wx8 : Option yV} {wx9 : Option yV} {s0 : Int} (h1 : -2147483648 ≤ s0 ∧ s0 < 2147483648) (kt : s0 ≠ 0 → XW kX12_isWhole d (some .boolean) (wQi Q) 85 [some (.inr (.inr 92)), some (.inl x1), some (.inl x2), some (.inl x3), some (.inl x4), some (.inl x5), some (.inl x6), some (.inl x7), wx8, wx9] [] M) (kf : s0 = 0 → XW kX12_isWhole d (some .boolean) (wQi Q) 81 [some (.inr (.inr 92)), some (.inl x1), some (.inl x2), some (.inl x3), some (.inl x4), some (.inl x5), some (.inl x6), some (.inl x7), wx8, wx9] [] M) : XW kX12_isWhole d (some .boolean) (wQi Q) 78 [some (.inr (.inr 92)), some (.inl x1), some (.inl x2), some (.inl x3), some (.inl x4), some (.inl x5), some (.inl x6), some (.inl x7), wx8, wx9] [.inl s0] M := by
  exact x_ifne rfl h1 kt kf
theorem uX12_isWhole_81 {d : Nat} {Q : Int → yM → Prop} {M : yM} {x1 : Int} {x2 : Int} {x3 : Int} {x4 : Int} {x5 : Int} {x6 : Int} {x7 : Int} {wx8 : Option yV} {wx9 : Option yV} (k : XW kX12_isWhole d (some .boolean) (wQi Q) 86 [some (.inr (.inr 92)), some (.inl x1), some (.inl x2), some (.inl x3), some (.inl x4), some (.inl x5), some (.inl x6), some (.inl x7), wx8, wx9] [.inl 1] M) : XW kX12_isWhole d (some .boolean) (wQi Q) 81 [some (.inr (.inr 92)), some (.inl x1), some (.inl x2), some (.inl x3), some (.inl x4), some (.inl x5), some (.inl x6), some (.inl x7), wx8, wx9] [] M := by
  refine x_iconst 1 rfl (by decide) ?_
  exact x_goto rfl k
theorem uX12_isWhole_85 {d : Nat} {Q : Int → yM → Prop} {M : yM} {x1 : Int} {x2 : Int} {x3 : Int} {x4 : Int} {x5 : Int} {x6 : Int} {x7 : Int} {wx8 : Option yV} {wx9 : Option yV} (k : XW kX12_isWhole d (some .boolean) (wQi Q) 86 [some (.inr (.inr 92)), some (.inl x1), some (.inl x2), some (.inl x3), some (.inl x4), some (.inl x5), some (.inl x6), some (.inl x7), wx8, wx9] [.inl 0] M) : XW kX12_isWhole d (some .boolean) (wQi Q) 85 [some (.inr (.inr 92)), some (.inl x1), some (.inl x2), some (.inl x3), some (.inl x4), some (.inl x5), some (.inl x6), some (.inl x7), wx8, wx9] [] M := by
  refine x_iconst 0 rfl (by decide) ?_
  exact k
theorem uX12_isWhole_86 {d : Nat} {Q : Int → yM → Prop} {M : yM} {x1 : Int} {x2 : Int} {x3 : Int} {x4 : Int} {x5 : Int} {x6 : Int} {x7 : Int} {wx8 : Option yV} {wx9 : Option yV} {s0 : Int} (k : XW kX12_isWhole d (some .boolean) (wQi Q) 91 [some (.inr (.inr 92)), some (.inl x1), some (.inl x2), some (.inl x3), some (.inl x4), some (.inl x5), some (.inl x6), some (.inl x7), some (.inl s0), some (.inl 0)] [] M) : XW kX12_isWhole d (some .boolean) (wQi Q) 86 [some (.inr (.inr 92)), some (.inl x1), some (.inl x2), some (.inl x3), some (.inl x4), some (.inl x5), some (.inl x6), some (.inl x7), wx8, wx9] [.inl s0] M := by
  refine x_istore rfl (Nat.le_of_ble_eq_true rfl) rfl ?_
  refine x_iconst 0 rfl (by decide) ?_
  refine x_istore rfl (Nat.le_of_ble_eq_true rfl) rfl ?_
  exact k
theorem uX12_isWhole_91 {d : Nat} {Q : Int → yM → Prop} {M : yM} {x1 : Int} {x2 : Int} {x3 : Int} {x4 : Int} {x5 : Int} {x6 : Int} {x7 : Int} {x8 : Int} {x9 : Int} (h1 : -2147483648 ≤ x9 ∧ x9 < 2147483648) (h2 : -2147483648 ≤ x1 ∧ x1 < 2147483648) (kt : x9 ≥ x1 → XW kX12_isWhole d (some .boolean) (wQi Q) 161 [some (.inr (.inr 92)), some (.inl x1), some (.inl x2), some (.inl x3), some (.inl x4), some (.inl x5), some (.inl x6), some (.inl x7), some (.inl x8), some (.inl x9)] [] M) (kf : x9 < x1 → XW kX12_isWhole d (some .boolean) (wQi Q) 97 [some (.inr (.inr 92)), some (.inl x1), some (.inl x2), some (.inl x3), some (.inl x4), some (.inl x5), some (.inl x6), some (.inl x7), some (.inl x8), some (.inl x9)] [] M) : XW kX12_isWhole d (some .boolean) (wQi Q) 91 [some (.inr (.inr 92)), some (.inl x1), some (.inl x2), some (.inl x3), some (.inl x4), some (.inl x5), some (.inl x6), some (.inl x7), some (.inl x8), some (.inl x9)] [] M := by
  refine x_iload rfl rfl ?_
  refine x_iload_n rfl rfl ?_
  exact x_icmpge rfl h1 h2 kt kf
theorem uX12_isWhole_97 {d : Nat} {Q : Int → yM → Prop} {M : yM} {x1 : Int} {x2 : Int} {x3 : Int} {x4 : Int} {x5 : Int} {x6 : Int} {x7 : Int} {x8 : Int} {x9 : Int} (h1 : -2147483648 ≤ x8 ∧ x8 < 2147483648) (kt : x8 ≠ 0 → XW kX12_isWhole d (some .boolean) (wQi Q) 161 [some (.inr (.inr 92)), some (.inl x1), some (.inl x2), some (.inl x3), some (.inl x4), some (.inl x5), some (.inl x6), some (.inl x7), some (.inl x8), some (.inl x9)] [] M) (kf : x8 = 0 → XW kX12_isWhole d (some .boolean) (wQi Q) 102 [some (.inr (.inr 92)), some (.inl x1), some (.inl x2), some (.inl x3), some (.inl x4), some (.inl x5), some (.inl x6), some (.inl x7), some (.inl x8), some (.inl x9)] [] M) : XW kX12_isWhole d (some .boolean) (wQi Q) 97 [some (.inr (.inr 92)), some (.inl x1), some (.inl x2), some (.inl x3), some (.inl x4), some (.inl x5), some (.inl x6), some (.inl x7), some (.inl x8), some (.inl x9)] [] M := by
  refine x_iload rfl rfl ?_
  exact x_ifne rfl h1 kt kf
theorem uX12_isWhole_102 {d : Nat} {Q : Int → yM → Prop} {M : yM} {x1 : Int} {x2 : Int} {x3 : Int} {x4 : Int} {x5 : Int} {x6 : Int} {x7 : Int} {x8 : Int} {x9 : Int} (h1 : -2147483648 ≤ x9 ∧ x9 < 2147483648) (h2 : -2147483648 ≤ x3 ∧ x3 < 2147483648) (kt : x9 = x3 → XW kX12_isWhole d (some .boolean) (wQi Q) 152 [some (.inr (.inr 92)), some (.inl x1), some (.inl x2), some (.inl x3), some (.inl x4), some (.inl x5), some (.inl x6), some (.inl x7), some (.inl x8), some (.inl x9)] [] M) (kf : x9 ≠ x3 → XW kX12_isWhole d (some .boolean) (wQi Q) 108 [some (.inr (.inr 92)), some (.inl x1), some (.inl x2), some (.inl x3), some (.inl x4), some (.inl x5), some (.inl x6), some (.inl x7), some (.inl x8), some (.inl x9)] [] M) : XW kX12_isWhole d (some .boolean) (wQi Q) 102 [some (.inr (.inr 92)), some (.inl x1), some (.inl x2), some (.inl x3), some (.inl x4), some (.inl x5), some (.inl x6), some (.inl x7), some (.inl x8), some (.inl x9)] [] M := by
  refine x_iload rfl rfl ?_
  refine x_iload_n rfl rfl ?_
  exact x_icmpeq rfl h1 h2 kt kf
theorem uX12_isWhole_108 {d : Nat} {Q : Int → yM → Prop} {M : yM} {x1 : Int} {x2 : Int} {x3 : Int} {x4 : Int} {x5 : Int} {x6 : Int} {x7 : Int} {x8 : Int} {x9 : Int} (h1 : -2147483648 ≤ x9 ∧ x9 < 2147483648) (h2 : -2147483648 ≤ x4 ∧ x4 < 2147483648) (kt : x9 = x4 → XW kX12_isWhole d (some .boolean) (wQi Q) 152 [some (.inr (.inr 92)), some (.inl x1), some (.inl x2), some (.inl x3), some (.inl x4), some (.inl x5), some (.inl x6), some (.inl x7), some (.inl x8), some (.inl x9)] [] M) (kf : x9 ≠ x4 → XW kX12_isWhole d (some .boolean) (wQi Q) 115 [some (.inr (.inr 92)), some (.inl x1), some (.inl x2), some (.inl x3), some (.inl x4), some (.inl x5), some (.inl x6), some (.inl x7), some (.inl x8), some (.inl x9)] [] M) : XW kX12_isWhole d (some .boolean) (wQi Q) 108 [some (.inr (.inr 92)), some (.inl x1), some (.inl x2), some (.inl x3), some (.inl x4), some (.inl x5), some (.inl x6), some (.inl x7), some (.inl x8), some (.inl x9)] [] M := by
  refine x_iload rfl rfl ?_
  refine x_iload rfl rfl ?_
  exact x_icmpeq rfl h1 h2 kt kf
theorem uX12_isWhole_115 {d : Nat} {Q : Int → yM → Prop} {M : yM} {x1 : Int} {x2 : Int} {x3 : Int} {x4 : Int} {x5 : Int} {x6 : Int} {x7 : Int} {x8 : Int} {x9 : Int} (h1 : 0 ≤ ((5 * x3) + x9) ∧ ((5 * x3) + x9) < 25) (h2 : -2147483648 ≤ x6 ∧ x6 < 2147483648) (kt : (ld M 112 ((5 * x3) + x9)) ≠ x6 → XW kX12_isWhole d (some .boolean) (wQi Q) 152 [some (.inr (.inr 92)), some (.inl x1), some (.inl x2), some (.inl x3), some (.inl x4), some (.inl x5), some (.inl x6), some (.inl x7), some (.inl x8), some (.inl x9)] [] M) (kf : (ld M 112 ((5 * x3) + x9)) = x6 → XW kX12_isWhole d (some .boolean) (wQi Q) 131 [some (.inr (.inr 92)), some (.inl x1), some (.inl x2), some (.inl x3), some (.inl x4), some (.inl x5), some (.inl x6), some (.inl x7), some (.inl x8), some (.inl x9)] [] M) : XW kX12_isWhole d (some .boolean) (wQi Q) 115 [some (.inr (.inr 92)), some (.inl x1), some (.inl x2), some (.inl x3), some (.inl x4), some (.inl x5), some (.inl x6), some (.inl x7), some (.inl x8), some (.inl x9)] [] M := by
  refine x_aload_n rfl rfl ?_
  refine x_getR rfl sh92 rfl ?_
  refine x_iconst 5 rfl (by decide) ?_
  refine x_iload_n rfl rfl ?_
  refine x_imul rfl ?_
  refine x_iload rfl rfl ?_
  refine x_iadd rfl ?_
  refine x_iaload rfl ⟨sh112, Nat.le_of_ble_eq_true rfl⟩ h1 ?_
  refine x_iload rfl rfl ?_
  exact x_icmpne rfl (rng_ld _ _ _) h2 kt kf
theorem uX12_isWhole_131 {d : Nat} {Q : Int → yM → Prop} {M : yM} {x1 : Int} {x2 : Int} {x3 : Int} {x4 : Int} {x5 : Int} {x6 : Int} {x7 : Int} {x8 : Int} {x9 : Int} (h1 : 0 ≤ ((5 * x9) + x4) ∧ ((5 * x9) + x4) < 25) (h2 : -2147483648 ≤ x7 ∧ x7 < 2147483648) (kt : (ld M 112 ((5 * x9) + x4)) ≠ x7 → XW kX12_isWhole d (some .boolean) (wQi Q) 152 [some (.inr (.inr 92)), some (.inl x1), some (.inl x2), some (.inl x3), some (.inl x4), some (.inl x5), some (.inl x6), some (.inl x7), some (.inl x8), some (.inl x9)] [] M) (kf : (ld M 112 ((5 * x9) + x4)) = x7 → XW kX12_isWhole d (some .boolean) (wQi Q) 148 [some (.inr (.inr 92)), some (.inl x1), some (.inl x2), some (.inl x3), some (.inl x4), some (.inl x5), some (.inl x6), some (.inl x7), some (.inl x8), some (.inl x9)] [] M) : XW kX12_isWhole d (some .boolean) (wQi Q) 131 [some (.inr (.inr 92)), some (.inl x1), some (.inl x2), some (.inl x3), some (.inl x4), some (.inl x5), some (.inl x6), some (.inl x7), some (.inl x8), some (.inl x9)] [] M := by
  refine x_aload_n rfl rfl ?_
  refine x_getR rfl sh92 rfl ?_
  refine x_iconst 5 rfl (by decide) ?_
  refine x_iload rfl rfl ?_
  refine x_imul rfl ?_
  refine x_iload rfl rfl ?_
  refine x_iadd rfl ?_
  refine x_iaload rfl ⟨sh112, Nat.le_of_ble_eq_true rfl⟩ h1 ?_
  refine x_iload rfl rfl ?_
  exact x_icmpne rfl (rng_ld _ _ _) h2 kt kf
theorem uX12_isWhole_148 {d : Nat} {Q : Int → yM → Prop} {M : yM} {x1 : Int} {x2 : Int} {x3 : Int} {x4 : Int} {x5 : Int} {x6 : Int} {x7 : Int} {x8 : Int} {x9 : Int} (k : XW kX12_isWhole d (some .boolean) (wQi Q) 153 [some (.inr (.inr 92)), some (.inl x1), some (.inl x2), some (.inl x3), some (.inl x4), some (.inl x5), some (.inl x6), some (.inl x7), some (.inl x8), some (.inl x9)] [.inl 1] M) : XW kX12_isWhole d (some .boolean) (wQi Q) 148 [some (.inr (.inr 92)), some (.inl x1), some (.inl x2), some (.inl x3), some (.inl x4), some (.inl x5), some (.inl x6), some (.inl x7), some (.inl x8), some (.inl x9)] [] M := by
  refine x_iconst 1 rfl (by decide) ?_
  exact x_goto rfl k
theorem uX12_isWhole_152 {d : Nat} {Q : Int → yM → Prop} {M : yM} {x1 : Int} {x2 : Int} {x3 : Int} {x4 : Int} {x5 : Int} {x6 : Int} {x7 : Int} {x8 : Int} {x9 : Int} (k : XW kX12_isWhole d (some .boolean) (wQi Q) 153 [some (.inr (.inr 92)), some (.inl x1), some (.inl x2), some (.inl x3), some (.inl x4), some (.inl x5), some (.inl x6), some (.inl x7), some (.inl x8), some (.inl x9)] [.inl 0] M) : XW kX12_isWhole d (some .boolean) (wQi Q) 152 [some (.inr (.inr 92)), some (.inl x1), some (.inl x2), some (.inl x3), some (.inl x4), some (.inl x5), some (.inl x6), some (.inl x7), some (.inl x8), some (.inl x9)] [] M := by
  refine x_iconst 0 rfl (by decide) ?_
  exact k
theorem uX12_isWhole_153 {d : Nat} {Q : Int → yM → Prop} {M : yM} {x1 : Int} {x2 : Int} {x3 : Int} {x4 : Int} {x5 : Int} {x6 : Int} {x7 : Int} {x8 : Int} {x9 : Int} {s0 : Int} (k : XW kX12_isWhole d (some .boolean) (wQi Q) 91 [some (.inr (.inr 92)), some (.inl x1), some (.inl x2), some (.inl x3), some (.inl x4), some (.inl x5), some (.inl x6), some (.inl x7), some (.inl s0), some (.inl (x9 + 1))] [] M) : XW kX12_isWhole d (some .boolean) (wQi Q) 153 [some (.inr (.inr 92)), some (.inl x1), some (.inl x2), some (.inl x3), some (.inl x4), some (.inl x5), some (.inl x6), some (.inl x7), some (.inl x8), some (.inl x9)] [.inl s0] M := by
  refine x_istore rfl (Nat.le_of_ble_eq_true rfl) rfl ?_
  refine x_iinc 1 rfl (by decide) rfl rfl ?_
  exact x_goto rfl k
theorem uX12_isWhole_161 {d : Nat} {Q : Int → yM → Prop} {M : yM} {x1 : Int} {x2 : Int} {x3 : Int} {x4 : Int} {x5 : Int} {x6 : Int} {x7 : Int} {x8 : Int} {x9 : Int} (h1 : -2147483648 ≤ x8 ∧ x8 < 2147483648) (kt : x8 ≠ 0 → XW kX12_isWhole d (some .boolean) (wQi Q) 168 [some (.inr (.inr 92)), some (.inl x1), some (.inl x2), some (.inl x3), some (.inl x4), some (.inl x5), some (.inl x6), some (.inl x7), some (.inl x8), some (.inl x9)] [] M) (kf : x8 = 0 → XW kX12_isWhole d (some .boolean) (wQi Q) 166 [some (.inr (.inr 92)), some (.inl x1), some (.inl x2), some (.inl x3), some (.inl x4), some (.inl x5), some (.inl x6), some (.inl x7), some (.inl x8), some (.inl x9)] [] M) : XW kX12_isWhole d (some .boolean) (wQi Q) 161 [some (.inr (.inr 92)), some (.inl x1), some (.inl x2), some (.inl x3), some (.inl x4), some (.inl x5), some (.inl x6), some (.inl x7), some (.inl x8), some (.inl x9)] [] M := by
  refine x_iload rfl rfl ?_
  exact x_ifne rfl h1 kt kf
theorem uX12_isWhole_166 {d : Nat} {Q : Int → yM → Prop} {M : yM} {x1 : Int} {x2 : Int} {x3 : Int} {x4 : Int} {x5 : Int} {x6 : Int} {x7 : Int} {x8 : Int} {x9 : Int} (k : Q 0 M) : XW kX12_isWhole d (some .boolean) (wQi Q) 166 [some (.inr (.inr 92)), some (.inl x1), some (.inl x2), some (.inl x3), some (.inl x4), some (.inl x5), some (.inl x6), some (.inl x7), some (.inl x8), some (.inl x9)] [] M := by
  refine x_iconst 0 rfl (by decide) ?_
  exact x_zreturn rfl (by decide) k
theorem uX12_isWhole_168 {d : Nat} {Q : Int → yM → Prop} {M : yM} {x1 : Int} {x2 : Int} {x3 : Int} {x4 : Int} {x5 : Int} {x6 : Int} {x7 : Int} {x8 : Int} {x9 : Int} (k : XW kX12_isWhole d (some .boolean) (wQi Q) 59 [some (.inr (.inr 92)), some (.inl x1), some (.inl x2), some (.inl x3), some (.inl x4), some (.inl x5), some (.inl x6), some (.inl (x7 + 1)), some (.inl x8), some (.inl x9)] [] M) : XW kX12_isWhole d (some .boolean) (wQi Q) 168 [some (.inr (.inr 92)), some (.inl x1), some (.inl x2), some (.inl x3), some (.inl x4), some (.inl x5), some (.inl x6), some (.inl x7), some (.inl x8), some (.inl x9)] [] M := by
  refine x_iinc 1 rfl (by decide) rfl rfl ?_
  exact x_goto rfl k
theorem uX12_isWhole_174 {d : Nat} {Q : Int → yM → Prop} {M : yM} {x1 : Int} {x2 : Int} {x3 : Int} {x4 : Int} {x5 : Int} {x6 : Int} {x7 : Int} {wx8 : Option yV} {wx9 : Option yV} (k : XW kX12_isWhole d (some .boolean) (wQi Q) 47 [some (.inr (.inr 92)), some (.inl x1), some (.inl x2), some (.inl x3), some (.inl x4), some (.inl x5), some (.inl (x6 + 1)), some (.inl x7), wx8, wx9] [] M) : XW kX12_isWhole d (some .boolean) (wQi Q) 174 [some (.inr (.inr 92)), some (.inl x1), some (.inl x2), some (.inl x3), some (.inl x4), some (.inl x5), some (.inl x6), some (.inl x7), wx8, wx9] [] M := by
  refine x_iinc 1 rfl (by decide) rfl rfl ?_
  exact x_goto rfl k
theorem uX12_isWhole_180 {d : Nat} {Q : Int → yM → Prop} {M : yM} {x1 : Int} {x2 : Int} {x3 : Int} {x4 : Int} {wx5 : Option yV} {wx6 : Option yV} {wx7 : Option yV} {wx8 : Option yV} {wx9 : Option yV} (k : XW kX12_isWhole d (some .boolean) (wQi Q) 12 [some (.inr (.inr 92)), some (.inl x1), some (.inl x2), some (.inl x3), some (.inl (x4 + 1)), wx5, wx6, wx7, wx8, wx9] [] M) : XW kX12_isWhole d (some .boolean) (wQi Q) 180 [some (.inr (.inr 92)), some (.inl x1), some (.inl x2), some (.inl x3), some (.inl x4), wx5, wx6, wx7, wx8, wx9] [] M := by
  refine x_iinc 1 rfl (by decide) rfl rfl ?_
  exact x_goto rfl k
theorem uX12_isWhole_186 {d : Nat} {Q : Int → yM → Prop} {M : yM} {x1 : Int} {x2 : Int} {x3 : Int} {x4 : Int} {wx5 : Option yV} {wx6 : Option yV} {wx7 : Option yV} {wx8 : Option yV} {wx9 : Option yV} (k : XW kX12_isWhole d (some .boolean) (wQi Q) 4 [some (.inr (.inr 92)), some (.inl x1), some (.inl x2), some (.inl (x3 + 1)), some (.inl x4), wx5, wx6, wx7, wx8, wx9] [] M) : XW kX12_isWhole d (some .boolean) (wQi Q) 186 [some (.inr (.inr 92)), some (.inl x1), some (.inl x2), some (.inl x3), some (.inl x4), wx5, wx6, wx7, wx8, wx9] [] M := by
  refine x_iinc 1 rfl (by decide) rfl rfl ?_
  exact x_goto rfl k
theorem uX12_isWhole_192 {d : Nat} {Q : Int → yM → Prop} {M : yM} {x1 : Int} {x2 : Int} {x3 : Int} {wx4 : Option yV} {wx5 : Option yV} {wx6 : Option yV} {wx7 : Option yV} {wx8 : Option yV} {wx9 : Option yV} (k : XCi d 121 [.inr (.inr 92)] M (fun v M' => XW kX12_isWhole (d + 1) (some .boolean) (wQi Q) 197 [some (.inr (.inr 92)), some (.inl x1), some (.inl x2), some (.inl x3), wx4, wx5, wx6, wx7, wx8, wx9] [.inl v, .inl x2] M')) : XW kX12_isWhole (d + 1) (some .boolean) (wQi Q) 192 [some (.inr (.inr 92)), some (.inl x1), some (.inl x2), some (.inl x3), wx4, wx5, wx6, wx7, wx8, wx9] [] M := by
  refine x_iload_n rfl rfl ?_
  refine x_aload_n rfl rfl ?_
  exact x_calli (args := [.inr (.inr 92)]) rfl rfl rfl k
theorem uX12_isWhole_197 {d : Nat} {Q : Int → yM → Prop} {M : yM} {x1 : Int} {x2 : Int} {x3 : Int} {wx4 : Option yV} {wx5 : Option yV} {wx6 : Option yV} {wx7 : Option yV} {wx8 : Option yV} {wx9 : Option yV} {s0 : Int} {s1 : Int} (h1 : -2147483648 ≤ s1 ∧ s1 < 2147483648) (h2 : -2147483648 ≤ s0 ∧ s0 < 2147483648) (kt : s1 ≠ s0 → XW kX12_isWhole d (some .boolean) (wQi Q) 204 [some (.inr (.inr 92)), some (.inl x1), some (.inl x2), some (.inl x3), wx4, wx5, wx6, wx7, wx8, wx9] [] M) (kf : s1 = s0 → XW kX12_isWhole d (some .boolean) (wQi Q) 200 [some (.inr (.inr 92)), some (.inl x1), some (.inl x2), some (.inl x3), wx4, wx5, wx6, wx7, wx8, wx9] [] M) : XW kX12_isWhole d (some .boolean) (wQi Q) 197 [some (.inr (.inr 92)), some (.inl x1), some (.inl x2), some (.inl x3), wx4, wx5, wx6, wx7, wx8, wx9] [.inl s0, .inl s1] M := by
  exact x_icmpne rfl h1 h2 kt kf
theorem uX12_isWhole_200 {d : Nat} {Q : Int → yM → Prop} {M : yM} {x1 : Int} {x2 : Int} {x3 : Int} {wx4 : Option yV} {wx5 : Option yV} {wx6 : Option yV} {wx7 : Option yV} {wx8 : Option yV} {wx9 : Option yV} (k : XW kX12_isWhole d (some .boolean) (wQi Q) 205 [some (.inr (.inr 92)), some (.inl x1), some (.inl x2), some (.inl x3), wx4, wx5, wx6, wx7, wx8, wx9] [.inl 1] M) : XW kX12_isWhole d (some .boolean) (wQi Q) 200 [some (.inr (.inr 92)), some (.inl x1), some (.inl x2), some (.inl x3), wx4, wx5, wx6, wx7, wx8, wx9] [] M := by
  refine x_iconst 1 rfl (by decide) ?_
  exact x_goto rfl k
theorem uX12_isWhole_204 {d : Nat} {Q : Int → yM → Prop} {M : yM} {x1 : Int} {x2 : Int} {x3 : Int} {wx4 : Option yV} {wx5 : Option yV} {wx6 : Option yV} {wx7 : Option yV} {wx8 : Option yV} {wx9 : Option yV} (k : XW kX12_isWhole d (some .boolean) (wQi Q) 205 [some (.inr (.inr 92)), some (.inl x1), some (.inl x2), some (.inl x3), wx4, wx5, wx6, wx7, wx8, wx9] [.inl 0] M) : XW kX12_isWhole d (some .boolean) (wQi Q) 204 [some (.inr (.inr 92)), some (.inl x1), some (.inl x2), some (.inl x3), wx4, wx5, wx6, wx7, wx8, wx9] [] M := by
  refine x_iconst 0 rfl (by decide) ?_
  exact k
theorem uX12_isWhole_205 {d : Nat} {Q : Int → yM → Prop} {M : yM} {x1 : Int} {x2 : Int} {x3 : Int} {wx4 : Option yV} {wx5 : Option yV} {wx6 : Option yV} {wx7 : Option yV} {wx8 : Option yV} {wx9 : Option yV} {s0 : Int} (h1 : s0 = 0 ∨ s0 = 1) (k : Q s0 M) : XW kX12_isWhole d (some .boolean) (wQi Q) 205 [some (.inr (.inr 92)), some (.inl x1), some (.inl x2), some (.inl x3), wx4, wx5, wx6, wx7, wx8, wx9] [.inl s0] M := by
  exact x_zreturn rfl h1 k
