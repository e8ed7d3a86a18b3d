theorem eX12_fills {d : Nat} {Q : yM → Prop} {M : yM} {x1 : Int}  (h : XW kX12_fills d none (wQv Q) 0 [some (.inr (.inr 92)), some (.inl x1), none, none, none, none] [] M) : XCv d 154 [.inr (.inr 92), .inl x1] M Q :=
  XC.ofW (Mm := (yX12_fills, cX12_fills, 6, none, 13, kX12_fills)) rfl (rcv_ok sh92) rfl rfl h
theorem uX12_fills_0 {d : Nat} {Q : yM → Prop} {M : yM} {x1 : Int} (k : ∀ M', M' = (put M 92 15 0) → XW kX12_fills d none (wQv Q) 5 [some (.inr (.inr 92)), some (.inl x1), none, none, none, none] [] M') : XW kX12_fills d none (wQv Q) 0 [some (.inr (.inr 92)), some (.inl x1), none, none, none, none] [] M := by
  refine x_aload_n rfl rfl ?_
  refine x_iconst 0 rfl (by decide) ?_
  refine x_putI rfl rfl sh92 rfl ?_
  exact k _ rfl
theorem uX12_fills_5 {d : Nat} {Q : yM → Prop} {M : yM} {x1 : Int} (k : XW kX12_fills d none (wQv Q) 7 [some (.inr (.inr 92)), some (.inl x1), some (.inl 0), none, none, none] [] M) : XW kX12_fills d none (wQv Q) 5 [some (.inr (.inr 92)), some (.inl x1), none, none, none, none] [] M := by
  refine x_iconst 0 rfl (by decide) ?_
  refine x_istore_n rfl (Nat.le_of_ble_eq_true rfl) rfl ?_
  exact k
theorem uX12_fills_7 {d : Nat} {Q : yM → Prop} {M : yM} {x1 : Int} {x2 : Int} {wx3 : Option yV} (h1 : -2147483648 ≤ x2 ∧ x2 < 2147483648) (kt : x2 ≥ (ld M 92 11) → XW kX12_fills d none (wQv Q) 69 [some (.inr (.inr 92)), some (.inl x1), some (.inl x2), wx3, none, none] [] M) (kf : x2 < (ld M 92 11) → XW kX12_fills d none (wQv Q) 15 [some (.inr (.inr 92)), some (.inl x1), some (.inl x2), wx3, none, none] [] M) : XW kX12_fills d none (wQv Q) 7 [some (.inr (.inr 92)), some (.inl x1), some (.inl x2), wx3, none, none] [] M := by
  refine x_iload_n rfl rfl ?_
  refine x_aload_n rfl rfl ?_
  refine x_getI rfl sh92 rfl ?_
  exact x_icmpge rfl h1 (rng_ld _ _ _) kt kf
theorem uX12_fills_15 {d : Nat} {Q : yM → Prop} {M : yM} {x1 : Int} {x2 : Int} {wx3 : Option yV} (k : XW kX12_fills d none (wQv Q) 19 [some (.inr (.inr 92)), some (.inl x1), some (.inl x2), some (.inl (x2 + 1)), none, none] [] M) : XW kX12_fills d none (wQv Q) 15 [some (.inr (.inr 92)), some (.inl x1), some (.inl x2), wx3, none, none] [] M := by
  refine x_iload_n rfl rfl ?_
  refine x_iconst 1 rfl (by decide) ?_
  refine x_iadd rfl ?_
  refine x_istore_n rfl (Nat.le_of_ble_eq_true rfl) rfl ?_
  exact k
theorem uX12_fills_19 {d : Nat} {Q : yM → Prop} {M : yM} {x1 : Int} {x2 : Int} {x3 : Int} (h1 : -2147483648 ≤ x3 ∧ x3 < 2147483648) (kt : x3 ≥ (ld M 92 11) → XW kX12_fills d none (wQv Q) 63 [some (.inr (.inr 92)), some (.inl x1), some (.inl x2), some (.inl x3), none, none] [] M) (kf : x3 < (ld M 92 11) → XW kX12_fills d none (wQv Q) 27 [some (.inr (.inr 92)), some (.inl x1), some (.inl x2), some (.inl x3), none, none] [] M) : XW kX12_fills d none (wQv Q) 19 [some (.inr (.inr 92)), some (.inl x1), some (.inl x2), some (.inl x3), none, none] [] M := by
  refine x_iload_n rfl rfl ?_
  refine x_aload_n rfl rfl ?_
  refine x_getI rfl sh92 rfl ?_
  exact x_icmpge rfl h1 (rng_ld _ _ _) kt kf
theorem uX12_fills_27 {d : Nat} {Q : yM → Prop} {M : yM} {x1 : Int} {x2 : Int} {x3 : Int} (h1 : 0 ≤ (ld M 92 15) ∧ (ld M 92 15) < 28) (k : ∀ M', M' = (put M 101 (ld M 92 15) x2) → XW kX12_fills d none (wQv Q) 37 [some (.inr (.inr 92)), some (.inl x1), some (.inl x2), some (.inl x3), none, none] [] M') : XW kX12_fills d none (wQv Q) 27 [some (.inr (.inr 92)), some (.inl x1), some (.inl x2), some (.inl x3), none, none] [] M := by
  refine x_aload_n rfl rfl ?_
  refine x_getR rfl sh92 rfl ?_
  refine x_aload_n rfl rfl ?_
  refine x_getI rfl sh92 rfl ?_
  refine x_iload_n rfl rfl ?_
  refine x_iastore rfl ⟨sh101, Nat.le_of_ble_eq_true rfl⟩ h1  ?_
  exact k _ rfl
theorem uX12_fills_37 {d : Nat} {Q : yM → Prop} {M : yM} {x1 : Int} {x2 : Int} {x3 : Int} (h1 : 0 ≤ (ld M 92 15) ∧ (ld M 92 15) < 28) (k : ∀ M', M' = (put M 102 (ld M 92 15) x3) → XW kX12_fills d none (wQv Q) 47 [some (.inr (.inr 92)), some (.inl x1), some (.inl x2), some (.inl x3), none, none] [] M') : XW kX12_fills d none (wQv Q) 37 [some (.inr (.inr 92)), some (.inl x1), some (.inl x2), some (.inl x3), none, none] [] M := by
  refine x_aload_n rfl rfl ?_
  refine x_getR rfl sh92 rfl ?_
  refine x_aload_n rfl rfl ?_
  refine x_getI rfl sh92 rfl ?_
  refine x_iload_n rfl rfl ?_
  refine x_iastore rfl ⟨sh102, Nat.le_of_ble_eq_true rfl⟩ h1  ?_
  exact k _ rfl
theorem uX12_fills_47 {d : Nat} {Q : yM → Prop} {M : yM} {x1 : Int} {x2 : Int} {x3 : Int} (k : ∀ M', M' = (put M 92 15 ((ld M 92 15) + 1)) → XW kX12_fills d none (wQv Q) 57 [some (.inr (.inr 92)), some (.inl x1), some (.inl x2), some (.inl x3), none, none] [] M') : XW kX12_fills d none (wQv Q) 47 [some (.inr (.inr 92)), some (.inl x1), some (.inl x2), some (.inl x3), none, none] [] M := by
  refine x_aload_n rfl rfl ?_
  refine x_dupa rfl ?_
  refine x_getI rfl sh92 rfl ?_
  refine x_iconst 1 rfl (by decide) ?_
  refine x_iadd rfl ?_
  refine x_putI rfl rfl sh92 rfl ?_
  exact k _ rfl
theorem uX12_fills_57 {d : Nat} {Q : yM → Prop} {M : yM} {x1 : Int} {x2 : Int} {x3 : Int} (k : XW kX12_fills d none (wQv Q) 19 [some (.inr (.inr 92)), some (.inl x1), some (.inl x2), some (.inl (x3 + 1)), none, none] [] M) : XW kX12_fills d none (wQv Q) 57 [some (.inr (.inr 92)), some (.inl x1), some (.inl x2), some (.inl x3), none, none] [] M := by
  refine x_iinc 1 rfl (by decide) rfl rfl ?_
  exact x_goto rfl k
theorem uX12_fills_63 {d : Nat} {Q : yM → Prop} {M : yM} {x1 : Int} {x2 : Int} {x3 : Int} (k : XW kX12_fills d none (wQv Q) 7 [some (.inr (.inr 92)), some (.inl x1), some (.inl (x2 + 1)), some (.inl x3), none, none] [] M) : XW kX12_fills d none (wQv Q) 63 [some (.inr (.inr 92)), some (.inl x1), some (.inl x2), some (.inl x3), none, none] [] M := by
  refine x_iinc 1 rfl (by decide) rfl rfl ?_
  exact x_goto rfl k
theorem uX12_fills_69 {d : Nat} {Q : yM → Prop} {M : yM} {x1 : Int} {x2 : Int} {wx3 : Option yV} (k : ∀ M', M' = (put M 92 17 0) → XW kX12_fills d none (wQv Q) 74 [some (.inr (.inr 92)), some (.inl x1), some (.inl x2), wx3, none, none] [] M') : XW kX12_fills d none (wQv Q) 69 [some (.inr (.inr 92)), some (.inl x1), some (.inl x2), wx3, none, none] [] M := by
  refine x_aload_n rfl rfl ?_
  refine x_iconst 0 rfl (by decide) ?_
  refine x_putI rfl rfl sh92 rfl ?_
  exact k _ rfl
theorem uX12_fills_74 {d : Nat} {Q : yM → Prop} {M : yM} {x1 : Int} {x2 : Int} {wx3 : Option yV} (k : XW kX12_fills d none (wQv Q) 76 [some (.inr (.inr 92)), some (.inl x1), some (.inl 0), wx3, none, none] [] M) : XW kX12_fills d none (wQv Q) 74 [some (.inr (.inr 92)), some (.inl x1), some (.inl x2), wx3, none, none] [] M := by
  refine x_iconst 0 rfl (by decide) ?_
  refine x_istore_n rfl (Nat.le_of_ble_eq_true rfl) rfl ?_
  exact k
theorem uX12_fills_76 {d : Nat} {Q : yM → Prop} {M : yM} {x1 : Int} {x2 : Int} {wx3 : Option yV} (h1 : -2147483648 ≤ x2 ∧ x2 < 2147483648) (kt : x2 ≥ 64 → XW kX12_fills d none (wQv Q) 103 [some (.inr (.inr 92)), some (.inl x1), some (.inl x2), wx3, none, none] [] M) (kf : x2 < 64 → XW kX12_fills d none (wQv Q) 82 [some (.inr (.inr 92)), some (.inl x1), some (.inl x2), wx3, none, none] [] M) : XW kX12_fills d none (wQv Q) 76 [some (.inr (.inr 92)), some (.inl x1), some (.inl x2), wx3, none, none] [] M := by
  refine x_iload_n rfl rfl ?_
  refine x_bipush 64 rfl (by decide) ?_
  exact x_icmpge rfl h1 (by decide) kt kf
theorem uX12_fills_82 {d : Nat} {Q : yM → Prop} {M : yM} {x1 : Int} {x2 : Int} {wx3 : Option yV} (h1 : 0 ≤ x2 ∧ x2 < 64) (k : ∀ M', M' = (put M 105 x2 0) → XW kX12_fills d none (wQv Q) 89 [some (.inr (.inr 92)), some (.inl x1), some (.inl x2), wx3, none, none] [] M') : XW kX12_fills d none (wQv Q) 82 [some (.inr (.inr 92)), some (.inl x1), some (.inl x2), wx3, none, none] [] M := by
  refine x_aload_n rfl rfl ?_
  refine x_getR rfl sh92 rfl ?_
  refine x_iload_n rfl rfl ?_
  refine x_iconst 0 rfl (by decide) ?_
  refine x_iastore rfl ⟨sh105, Nat.le_of_ble_eq_true rfl⟩ h1  ?_
  exact k _ rfl
theorem uX12_fills_89 {d : Nat} {Q : yM → Prop} {M : yM} {x1 : Int} {x2 : Int} {wx3 : Option yV} (h1 : 0 ≤ x2 ∧ x2 < 64) (k : ∀ M', M' = (put M 104 x2 (-9)) → XW kX12_fills d none (wQv Q) 97 [some (.inr (.inr 92)), some (.inl x1), some (.inl x2), wx3, none, none] [] M') : XW kX12_fills d none (wQv Q) 89 [some (.inr (.inr 92)), some (.inl x1), some (.inl x2), wx3, none, none] [] M := by
  refine x_aload_n rfl rfl ?_
  refine x_getR rfl sh92 rfl ?_
  refine x_iload_n rfl rfl ?_
  refine x_bipush (-9) rfl (by decide) ?_
  refine x_iastore rfl ⟨sh104, Nat.le_of_ble_eq_true rfl⟩ h1  ?_
  exact k _ rfl
theorem uX12_fills_97 {d : Nat} {Q : yM → Prop} {M : yM} {x1 : Int} {x2 : Int} {wx3 : Option yV} (k : XW kX12_fills d none (wQv Q) 76 [some (.inr (.inr 92)), some (.inl x1), some (.inl (x2 + 1)), wx3, none, none] [] M) : XW kX12_fills d none (wQv Q) 97 [some (.inr (.inr 92)), some (.inl x1), some (.inl x2), wx3, none, none] [] M := by
  refine x_iinc 1 rfl (by decide) rfl rfl ?_
  exact x_goto rfl k
theorem uX12_fills_103 {d : Nat} {Q : yM → Prop} {M : yM} {x1 : Int} {x2 : Int} {wx3 : Option yV} (k : XCl d 149 [.inr (.inr 92), .inl 64] M (fun v M' => XW kX12_fills (d + 1) none (wQv Q) 109 [some (.inr (.inr 92)), some (.inl x1), some (.inl x2), wx3, none, none] [.inr (.inl v)] M')) : XW kX12_fills (d + 1) none (wQv Q) 103 [some (.inr (.inr 92)), some (.inl x1), some (.inl x2), wx3, none, none] [] M := by
  refine x_aload_n rfl rfl ?_
  refine x_bipush 64 rfl (by decide) ?_
  exact x_calll (args := [.inr (.inr 92), .inl 64]) rfl rfl rfl k
theorem uX12_fills_109 {d : Nat} {Q : yM → Prop} {M : yM} {x1 : Int} {x2 : Int} {wx3 : Option yV} {s0 : Int} (k : XCi d 147 [.inr (.inr 92), .inl 64] M (fun v M' => XW kX12_fills (d + 1) none (wQv Q) 116 [some (.inr (.inr 92)), some (.inl x1), some (.inl x2), wx3, none, none] [.inl v] M')) : XW kX12_fills (d + 1) none (wQv Q) 109 [some (.inr (.inr 92)), some (.inl x1), some (.inl x2), wx3, none, none] [.inr (.inl s0)] M := by
  refine x_pop2 rfl ?_
  refine x_aload_n rfl rfl ?_
  refine x_bipush 64 rfl (by decide) ?_
  exact x_calli (args := [.inr (.inr 92), .inl 64]) rfl rfl rfl k
theorem uX12_fills_116 {d : Nat} {Q : yM → Prop} {M : yM} {x1 : Int} {x2 : Int} {wx3 : Option yV} {s0 : Int} (h1 : -2147483648 ≤ s0 ∧ s0 < 2147483648) (kt : s0 = 0 → XW kX12_fills d none (wQv Q) 120 [some (.inr (.inr 92)), some (.inl x1), some (.inl x2), wx3, none, none] [] M) (kf : s0 ≠ 0 → XW kX12_fills d none (wQv Q) 119 [some (.inr (.inr 92)), some (.inl x1), some (.inl x2), wx3, none, none] [] M) : XW kX12_fills d none (wQv Q) 116 [some (.inr (.inr 92)), some (.inl x1), some (.inl x2), wx3, none, none] [.inl s0] M := by
  exact x_ifeq rfl h1 kt kf
theorem uX12_fills_119 {d : Nat} {Q : yM → Prop} {M : yM} {x1 : Int} {x2 : Int} {wx3 : Option yV} (k : Q M) : XW kX12_fills d none (wQv Q) 119 [some (.inr (.inr 92)), some (.inl x1), some (.inl x2), wx3, none, none] [] M := by
  exact x_return rfl k
theorem uX12_fills_120 {d : Nat} {Q : yM → Prop} {M : yM} {x1 : Int} {x2 : Int} {wx3 : Option yV} (k : ∀ M', M' = (put M 103 0 (-1)) → XW kX12_fills d none (wQv Q) 129 [some (.inr (.inr 92)), some (.inl x1), some (.inl 0), wx3, none, none] [] M') : XW kX12_fills d none (wQv Q) 120 [some (.inr (.inr 92)), some (.inl x1), some (.inl x2), wx3, none, none] [] M := by
  refine x_iconst 0 rfl (by decide) ?_
  refine x_istore_n rfl (Nat.le_of_ble_eq_true rfl) rfl ?_
  refine x_aload_n rfl rfl ?_
  refine x_getR rfl sh92 rfl ?_
  refine x_iconst 0 rfl (by decide) ?_
  refine x_iconst (-1) rfl (by decide) ?_
  refine x_iastore rfl ⟨sh103, Nat.le_of_ble_eq_true rfl⟩ (by decide)  ?_
  exact k _ rfl
theorem uX12_fills_129 {d : Nat} {Q : yM → Prop} {M : yM} {x1 : Int} {x2 : Int} {wx3 : Option yV} {wx4 : Option yV} {wx5 : Option yV} (h1 : -2147483648 ≤ x2 ∧ x2 < 2147483648) (kt : x2 < 0 → XW kX12_fills d none (wQv Q) 324 [some (.inr (.inr 92)), some (.inl x1), some (.inl x2), wx3, wx4, wx5] [] M) (kf : x2 ≥ 0 → XW kX12_fills d none (wQv Q) 133 [some (.inr (.inr 92)), some (.inl x1), some (.inl x2), wx3, wx4, wx5] [] M) : XW kX12_fills d none (wQv Q) 129 [some (.inr (.inr 92)), some (.inl x1), some (.inl x2), wx3, wx4, wx5] [] M := by
  refine x_iload_n rfl rfl ?_
  exact x_iflt rfl h1 kt kf
theorem uX12_fills_133 {d : Nat} {Q : yM → Prop} {M : yM} {x1 : Int} {x2 : Int} {wx3 : Option yV} {wx4 : Option yV} {wx5 : Option yV} (h1 : -2147483648 ≤ x1 ∧ x1 < 2147483648) (kt : (ld M 92 17) ≥ x1 → XW kX12_fills d none (wQv Q) 324 [some (.inr (.inr 92)), some (.inl x1), some (.inl x2), wx3, wx4, wx5] [] M) (kf : (ld M 92 17) < x1 → XW kX12_fills d none (wQv Q) 141 [some (.inr (.inr 92)), some (.inl x1), some (.inl x2), wx3, wx4, wx5] [] M) : XW kX12_fills d none (wQv Q) 133 [some (.inr (.inr 92)), some (.inl x1), some (.inl x2), wx3, wx4, wx5] [] M := by
  refine x_aload_n rfl rfl ?_
  refine x_getI rfl sh92 rfl ?_
  refine x_iload_n rfl rfl ?_
  exact x_icmpge rfl (rng_ld _ _ _) h1 kt kf
theorem uX12_fills_141 {d : Nat} {Q : yM → Prop} {M : yM} {x1 : Int} {x2 : Int} {wx3 : Option yV} {wx4 : Option yV} {wx5 : Option yV} (h1 : -2147483648 ≤ x2 ∧ x2 < 2147483648) (kt : x2 ≠ (ld M 92 15) → XW kX12_fills d none (wQv Q) 167 [some (.inr (.inr 92)), some (.inl x1), some (.inl x2), some (.inl (64 * (x2 + 1))), wx4, wx5] [] M) (kf : x2 = (ld M 92 15) → XW kX12_fills d none (wQv Q) 156 [some (.inr (.inr 92)), some (.inl x1), some (.inl x2), some (.inl (64 * (x2 + 1))), wx4, wx5] [] M) : XW kX12_fills d none (wQv Q) 141 [some (.inr (.inr 92)), some (.inl x1), some (.inl x2), wx3, wx4, wx5] [] M := by
  refine x_bipush 64 rfl (by decide) ?_
  refine x_iload_n rfl rfl ?_
  refine x_iconst 1 rfl (by decide) ?_
  refine x_iadd rfl ?_
  refine x_imul rfl ?_
  refine x_istore_n rfl (Nat.le_of_ble_eq_true rfl) rfl ?_
  refine x_iload_n rfl rfl ?_
  refine x_aload_n rfl rfl ?_
  refine x_getI rfl sh92 rfl ?_
  exact x_icmpne rfl h1 (rng_ld _ _ _) kt kf
theorem uX12_fills_156 {d : Nat} {Q : yM → Prop} {M : yM} {x1 : Int} {x2 : Int} {x3 : Int} {wx4 : Option yV} {wx5 : Option yV} (k : XCv d 155 [.inr (.inr 92), .inl x3] M (fun M' => XW kX12_fills (d + 1) none (wQv Q) 161 [some (.inr (.inr 92)), some (.inl x1), some (.inl x2), some (.inl x3), wx4, wx5] [] M')) : XW kX12_fills (d + 1) none (wQv Q) 156 [some (.inr (.inr 92)), some (.inl x1), some (.inl x2), some (.inl x3), wx4, wx5] [] M := by
  refine x_aload_n rfl rfl ?_
  refine x_iload_n rfl rfl ?_
  exact x_callv (args := [.inr (.inr 92), .inl x3]) rfl rfl rfl k
theorem uX12_fills_161 {d : Nat} {Q : yM → Prop} {M : yM} {x1 : Int} {x2 : Int} {x3 : Int} {wx4 : Option yV} {wx5 : Option yV} (k : XW kX12_fills d none (wQv Q) 321 [some (.inr (.inr 92)), some (.inl x1), some (.inl (x2 + (-1))), some (.inl x3), wx4, wx5] [] M) : XW kX12_fills d none (wQv Q) 161 [some (.inr (.inr 92)), some (.inl x1), some (.inl x2), some (.inl x3), wx4, wx5] [] M := by
  refine x_iinc (-1) rfl (by decide) rfl rfl ?_
  exact x_goto rfl k
theorem uX12_fills_167 {d : Nat} {Q : yM → Prop} {M : yM} {x1 : Int} {x2 : Int} {x3 : Int} {wx4 : Option yV} {wx5 : Option yV} (h1 : 0 ≤ x2 ∧ x2 < 28) (h2 : 0 ≤ x2 ∧ x2 < 28) (h3 : 0 ≤ x2 ∧ x2 < 28) (h4 : 0 ≤ ((x3 + (8 * (ld M 101 x2))) + (ld M 102 x2)) ∧ ((x3 + (8 * (ld M 101 x2))) + (ld M 102 x2)) < 2048) (k : XW kX12_fills d none (wQv Q) 202 [some (.inr (.inr 92)), some (.inl x1), some (.inl x2), some (.inl x3), some (.inl ((ld M 103 x2) + 1)), some (.inl (ld M 100 ((x3 + (8 * (ld M 101 x2))) + (ld M 102 x2))))] [] M) : XW kX12_fills d none (wQv Q) 167 [some (.inr (.inr 92)), some (.inl x1), some (.inl x2), some (.inl x3), wx4, wx5] [] M := by
  refine x_aload_n rfl rfl ?_
  refine x_getR rfl sh92 rfl ?_
  refine x_iload_n rfl rfl ?_
  refine x_iaload rfl ⟨sh103, Nat.le_of_ble_eq_true rfl⟩ h1 ?_
  refine x_iconst 1 rfl (by decide) ?_
  refine x_iadd rfl ?_
  refine x_istore rfl (Nat.le_of_ble_eq_true rfl) rfl ?_
  refine x_aload_n rfl rfl ?_
  refine x_getR rfl sh92 rfl ?_
  refine x_iload_n rfl rfl ?_
  refine x_bipush 8 rfl (by decide) ?_
  refine x_aload_n rfl rfl ?_
  refine x_getR rfl sh92 rfl ?_
  refine x_iload_n rfl rfl ?_
  refine x_iaload rfl ⟨sh101, Nat.le_of_ble_eq_true rfl⟩ h2 ?_
  refine x_imul rfl ?_
  refine x_iadd rfl ?_
  refine x_aload_n rfl rfl ?_
  refine x_getR rfl sh92 rfl ?_
  refine x_iload_n rfl rfl ?_
  refine x_iaload rfl ⟨sh102, Nat.le_of_ble_eq_true rfl⟩ h3 ?_
  refine x_iadd rfl ?_
  refine x_iaload rfl ⟨sh100, Nat.le_of_ble_eq_true rfl⟩ h4 ?_
  refine x_istore rfl (Nat.le_of_ble_eq_true rfl) rfl ?_
  exact k
theorem uX12_fills_202 {d : Nat} {Q : yM → Prop} {M : yM} {x1 : Int} {x2 : Int} {x3 : Int} {x4 : Int} {x5 : Int} (h1 : -2147483648 ≤ x4 ∧ x4 < 2147483648) (kt : x4 ≥ (ld M 92 2) → XW kX12_fills d none (wQv Q) 227 [some (.inr (.inr 92)), some (.inl x1), some (.inl x2), some (.inl x3), some (.inl x4), some (.inl x5)] [] M) (kf : x4 < (ld M 92 2) → XW kX12_fills d none (wQv Q) 211 [some (.inr (.inr 92)), some (.inl x1), some (.inl x2), some (.inl x3), some (.inl x4), some (.inl x5)] [] M) : XW kX12_fills d none (wQv Q) 202 [some (.inr (.inr 92)), some (.inl x1), some (.inl x2), some (.inl x3), some (.inl x4), some (.inl x5)] [] M := by
  refine x_iload rfl rfl ?_
  refine x_aload_n rfl rfl ?_
  refine x_getI rfl sh92 rfl ?_
  exact x_icmpge rfl h1 (rng_ld _ _ _) kt kf
theorem uX12_fills_211 {d : Nat} {Q : yM → Prop} {M : yM} {x1 : Int} {x2 : Int} {x3 : Int} {x4 : Int} {x5 : Int} (kt : (yand (yshr x5 x4) 1) ≠ 0 → XW kX12_fills d none (wQv Q) 227 [some (.inr (.inr 92)), some (.inl x1), some (.inl x2), some (.inl x3), some (.inl x4), some (.inl x5)] [] M) (kf : (yand (yshr x5 x4) 1) = 0 → XW kX12_fills d none (wQv Q) 221 [some (.inr (.inr 92)), some (.inl x1), some (.inl x2), some (.inl x3), some (.inl x4), some (.inl x5)] [] M) : XW kX12_fills d none (wQv Q) 211 [some (.inr (.inr 92)), some (.inl x1), some (.inl x2), some (.inl x3), some (.inl x4), some (.inl x5)] [] M := by
  refine x_iload rfl rfl ?_
  refine x_iload rfl rfl ?_
  refine x_ishr rfl ?_
  refine x_iconst 1 rfl (by decide) ?_
  refine x_iand rfl ?_
  exact x_ifne rfl (rng_yand _ _) kt kf
theorem uX12_fills_221 {d : Nat} {Q : yM → Prop} {M : yM} {x1 : Int} {x2 : Int} {x3 : Int} {x4 : Int} {x5 : Int} (k : XW kX12_fills d none (wQv Q) 202 [some (.inr (.inr 92)), some (.inl x1), some (.inl x2), some (.inl x3), some (.inl (x4 + 1)), some (.inl x5)] [] M) : XW kX12_fills d none (wQv Q) 221 [some (.inr (.inr 92)), some (.inl x1), some (.inl x2), some (.inl x3), some (.inl x4), some (.inl x5)] [] M := by
  refine x_iinc 1 rfl (by decide) rfl rfl ?_
  exact x_goto rfl k
theorem uX12_fills_227 {d : Nat} {Q : yM → Prop} {M : yM} {x1 : Int} {x2 : Int} {x3 : Int} {x4 : Int} {x5 : Int} (h1 : 0 ≤ x2 ∧ x2 < 28) (k : ∀ M', M' = (put M 103 x2 x4) → XW kX12_fills d none (wQv Q) 235 [some (.inr (.inr 92)), some (.inl x1), some (.inl x2), some (.inl x3), some (.inl x4), some (.inl x5)] [] M') : XW kX12_fills d none (wQv Q) 227 [some (.inr (.inr 92)), some (.inl x1), some (.inl x2), some (.inl x3), some (.inl x4), some (.inl x5)] [] M := by
  refine x_aload_n rfl rfl ?_
  refine x_getR rfl sh92 rfl ?_
  refine x_iload_n rfl rfl ?_
  refine x_iload rfl rfl ?_
  refine x_iastore rfl ⟨sh103, Nat.le_of_ble_eq_true rfl⟩ h1  ?_
  exact k _ rfl
theorem uX12_fills_235 {d : Nat} {Q : yM → Prop} {M : yM} {x1 : Int} {x2 : Int} {x3 : Int} {x4 : Int} {x5 : Int} (h1 : -2147483648 ≤ x4 ∧ x4 < 2147483648) (kt : x4 ≠ (ld M 92 2) → XW kX12_fills d none (wQv Q) 250 [some (.inr (.inr 92)), some (.inl x1), some (.inl x2), some (.inl x3), some (.inl x4), some (.inl x5)] [] M) (kf : x4 = (ld M 92 2) → XW kX12_fills d none (wQv Q) 244 [some (.inr (.inr 92)), some (.inl x1), some (.inl x2), some (.inl x3), some (.inl x4), some (.inl x5)] [] M) : XW kX12_fills d none (wQv Q) 235 [some (.inr (.inr 92)), some (.inl x1), some (.inl x2), some (.inl x3), some (.inl x4), some (.inl x5)] [] M := by
  refine x_iload rfl rfl ?_
  refine x_aload_n rfl rfl ?_
  refine x_getI rfl sh92 rfl ?_
  exact x_icmpne rfl h1 (rng_ld _ _ _) kt kf
theorem uX12_fills_244 {d : Nat} {Q : yM → Prop} {M : yM} {x1 : Int} {x2 : Int} {x3 : Int} {x4 : Int} {x5 : Int} (k : XW kX12_fills d none (wQv Q) 321 [some (.inr (.inr 92)), some (.inl x1), some (.inl (x2 + (-1))), some (.inl x3), some (.inl x4), some (.inl x5)] [] M) : XW kX12_fills d none (wQv Q) 244 [some (.inr (.inr 92)), some (.inl x1), some (.inl x2), some (.inl x3), some (.inl x4), some (.inl x5)] [] M := by
  refine x_iinc (-1) rfl (by decide) rfl rfl ?_
  exact x_goto rfl k
theorem uX12_fills_250 {d : Nat} {Q : yM → Prop} {M : yM} {x1 : Int} {x2 : Int} {x3 : Int} {x4 : Int} {x5 : Int} (k : XCv d 146 [.inr (.inr 92), .inl x3, .inl (x3 + 64)] M (fun M' => XW kX12_fills (d + 1) none (wQv Q) 259 [some (.inr (.inr 92)), some (.inl x1), some (.inl x2), some (.inl x3), some (.inl x4), some (.inl x5)] [] M')) : XW kX12_fills (d + 1) none (wQv Q) 250 [some (.inr (.inr 92)), some (.inl x1), some (.inl x2), some (.inl x3), some (.inl x4), some (.inl x5)] [] M := by
  refine x_aload_n rfl rfl ?_
  refine x_iload_n rfl rfl ?_
  refine x_iload_n rfl rfl ?_
  refine x_bipush 64 rfl (by decide) ?_
  refine x_iadd rfl ?_
  exact x_callv (args := [.inr (.inr 92), .inl x3, .inl (x3 + 64)]) rfl rfl rfl k
theorem uX12_fills_259 {d : Nat} {Q : yM → Prop} {M : yM} {x1 : Int} {x2 : Int} {x3 : Int} {x4 : Int} {x5 : Int} (h1 : 0 ≤ x2 ∧ x2 < 28) (h2 : 0 ≤ x2 ∧ x2 < 28) (k : XCv d 144 [.inr (.inr 92), .inl (x3 + 64), .inl (ld M 101 x2), .inl (ld M 102 x2), .inl (yshl 1 x4)] M (fun M' => XW kX12_fills (d + 1) none (wQv Q) 283 [some (.inr (.inr 92)), some (.inl x1), some (.inl x2), some (.inl x3), some (.inl x4), some (.inl x5)] [] M')) : XW kX12_fills (d + 1) none (wQv Q) 259 [some (.inr (.inr 92)), some (.inl x1), some (.inl x2), some (.inl x3), some (.inl x4), some (.inl x5)] [] M := by
  refine x_aload_n rfl rfl ?_
  refine x_iload_n rfl rfl ?_
  refine x_bipush 64 rfl (by decide) ?_
  refine x_iadd rfl ?_
  refine x_aload_n rfl rfl ?_
  refine x_getR rfl sh92 rfl ?_
  refine x_iload_n rfl rfl ?_
  refine x_iaload rfl ⟨sh101, Nat.le_of_ble_eq_true rfl⟩ h1 ?_
  refine x_aload_n rfl rfl ?_
  refine x_getR rfl sh92 rfl ?_
  refine x_iload_n rfl rfl ?_
  refine x_iaload rfl ⟨sh102, Nat.le_of_ble_eq_true rfl⟩ h2 ?_
  refine x_iconst 1 rfl (by decide) ?_
  refine x_iload rfl rfl ?_
  refine x_ishl rfl ?_
  exact x_callv (args := [.inr (.inr 92), .inl (x3 + 64), .inl (ld M 101 x2), .inl (ld M 102 x2), .inl (yshl 1 x4)]) rfl rfl rfl k
theorem uX12_fills_283 {d : Nat} {Q : yM → Prop} {M : yM} {x1 : Int} {x2 : Int} {x3 : Int} {x4 : Int} {x5 : Int} (k : XCl d 149 [.inr (.inr 92), .inl (x3 + 64)] M (fun v M' => XW kX12_fills (d + 1) none (wQv Q) 291 [some (.inr (.inr 92)), some (.inl x1), some (.inl x2), some (.inl x3), some (.inl x4), some (.inl x5)] [.inr (.inl v)] M')) : XW kX12_fills (d + 1) none (wQv Q) 283 [some (.inr (.inr 92)), some (.inl x1), some (.inl x2), some (.inl x3), some (.inl x4), some (.inl x5)] [] M := by
  refine x_aload_n rfl rfl ?_
  refine x_iload_n rfl rfl ?_
  refine x_bipush 64 rfl (by decide) ?_
  refine x_iadd rfl ?_
  exact x_calll (args := [.inr (.inr 92), .inl (x3 + 64)]) rfl rfl rfl k
theorem uX12_fills_291 {d : Nat} {Q : yM → Prop} {M : yM} {x1 : Int} {x2 : Int} {x3 : Int} {x4 : Int} {x5 : Int} {s0 : Int} (k : XCi d 147 [.inr (.inr 92), .inl (x3 + 64)] M (fun v M' => XW kX12_fills (d + 1) none (wQv Q) 300 [some (.inr (.inr 92)), some (.inl x1), some (.inl x2), some (.inl x3), some (.inl x4), some (.inl x5)] [.inl v] M')) : XW kX12_fills (d + 1) none (wQv Q) 291 [some (.inr (.inr 92)), some (.inl x1), some (.inl x2), some (.inl x3), some (.inl x4), some (.inl x5)] [.inr (.inl s0)] M := by
  refine x_pop2 rfl ?_
  refine x_aload_n rfl rfl ?_
  refine x_iload_n rfl rfl ?_
  refine x_bipush 64 rfl (by decide) ?_
  refine x_iadd rfl ?_
  exact x_calli (args := [.inr (.inr 92), .inl (x3 + 64)]) rfl rfl rfl k
theorem uX12_fills_300 {d : Nat} {Q : yM → Prop} {M : yM} {x1 : Int} {x2 : Int} {x3 : Int} {x4 : Int} {x5 : Int} {s0 : Int} (h1 : -2147483648 ≤ s0 ∧ s0 < 2147483648) (kt : s0 ≠ 0 → XW kX12_fills d none (wQv Q) 321 [some (.inr (.inr 92)), some (.inl x1), some (.inl x2), some (.inl x3), some (.inl x4), some (.inl x5)] [] M) (kf : s0 = 0 → XW kX12_fills d none (wQv Q) 303 [some (.inr (.inr 92)), some (.inl x1), some (.inl x2), some (.inl x3), some (.inl x4), some (.inl x5)] [] M) : XW kX12_fills d none (wQv Q) 300 [some (.inr (.inr 92)), some (.inl x1), some (.inl x2), some (.inl x3), some (.inl x4), some (.inl x5)] [.inl s0] M := by
  exact x_ifne rfl h1 kt kf
theorem uX12_fills_303 {d : Nat} {Q : yM → Prop} {M : yM} {x1 : Int} {x2 : Int} {x3 : Int} {x4 : Int} {x5 : Int} (h1 : -2147483648 ≤ (x2 + 1) ∧ (x2 + 1) < 2147483648) (kt : (x2 + 1) ≥ (ld M 92 15) → XW kX12_fills d none (wQv Q) 321 [some (.inr (.inr 92)), some (.inl x1), some (.inl (x2 + 1)), some (.inl x3), some (.inl x4), some (.inl x5)] [] M) (kf : (x2 + 1) < (ld M 92 15) → XW kX12_fills d none (wQv Q) 314 [some (.inr (.inr 92)), some (.inl x1), some (.inl (x2 + 1)), some (.inl x3), some (.inl x4), some (.inl x5)] [] M) : XW kX12_fills d none (wQv Q) 303 [some (.inr (.inr 92)), some (.inl x1), some (.inl x2), some (.inl x3), some (.inl x4), some (.inl x5)] [] M := by
  refine x_iinc 1 rfl (by decide) rfl rfl ?_
  refine x_iload_n rfl rfl ?_
  refine x_aload_n rfl rfl ?_
  refine x_getI rfl sh92 rfl ?_
  exact x_icmpge rfl h1 (rng_ld _ _ _) kt kf
theorem uX12_fills_314 {d : Nat} {Q : yM → Prop} {M : yM} {x1 : Int} {x2 : Int} {x3 : Int} {x4 : Int} {x5 : Int} (h1 : 0 ≤ x2 ∧ x2 < 28) (k : ∀ M', M' = (put M 103 x2 (-1)) → XW kX12_fills d none (wQv Q) 321 [some (.inr (.inr 92)), some (.inl x1), some (.inl x2), some (.inl x3), some (.inl x4), some (.inl x5)] [] M') : XW kX12_fills d none (wQv Q) 314 [some (.inr (.inr 92)), some (.inl x1), some (.inl x2), some (.inl x3), some (.inl x4), some (.inl x5)] [] M := by
  refine x_aload_n rfl rfl ?_
  refine x_getR rfl sh92 rfl ?_
  refine x_iload_n rfl rfl ?_
  refine x_iconst (-1) rfl (by decide) ?_
  refine x_iastore rfl ⟨sh103, Nat.le_of_ble_eq_true rfl⟩ h1  ?_
  exact k _ rfl
theorem uX12_fills_321 {d : Nat} {Q : yM → Prop} {M : yM} {x1 : Int} {x2 : Int} {x3 : Int} {wx4 : Option yV} {wx5 : Option yV} (k : XW kX12_fills d none (wQv Q) 129 [some (.inr (.inr 92)), some (.inl x1), some (.inl x2), some (.inl x3), wx4, wx5] [] M) : XW kX12_fills d none (wQv Q) 321 [some (.inr (.inr 92)), some (.inl x1), some (.inl x2), some (.inl x3), wx4, wx5] [] M := by
  exact x_goto rfl k
theorem uX12_fills_324 {d : Nat} {Q : yM → Prop} {M : yM} {x1 : Int} {x2 : Int} {wx3 : Option yV} {wx4 : Option yV} {wx5 : Option yV} (k : Q M) : XW kX12_fills d none (wQv Q) 324 [some (.inr (.inr 92)), some (.inl x1), some (.inl x2), wx3, wx4, wx5] [] M := by
  exact x_return rfl k
theorem eX12_takes {d : Nat} {Q : yM → Prop} {M : yM} {x1 : Int}  (h : XW kX12_takes d none (wQv Q) 0 [some (.inr (.inr 92)), some (.inl x1), none, none, none, none] [] M) : XCv d 155 [.inr (.inr 92), .inl x1] M Q :=
  XC.ofW (Mm := (yX12_takes, cX12_takes, 6, none, 13, kX12_takes)) rfl (rcv_ok sh92) rfl rfl h
theorem uX12_takes_0 {d : Nat} {Q : yM → Prop} {M : yM} {x1 : Int} (k : XW kX12_takes d none (wQv Q) 2 [some (.inr (.inr 92)), some (.inl x1), some (.inl 0), none, none, none] [] M) : XW kX12_takes d none (wQv Q) 0 [some (.inr (.inr 92)), some (.inl x1), none, none, none, none] [] M := by
  refine x_iconst 0 rfl (by decide) ?_
  refine x_istore_n rfl (Nat.le_of_ble_eq_true rfl) rfl ?_
  exact k
theorem uX12_takes_2 {d : Nat} {Q : yM → Prop} {M : yM} {x1 : Int} {x2 : Int} {wx3 : Option yV} {wx4 : Option yV} {wx5 : Option yV} (h1 : -2147483648 ≤ x2 ∧ x2 < 2147483648) (kt : x2 ≥ (ld M 92 11) → XW kX12_takes d none (wQv Q) 115 [some (.inr (.inr 92)), some (.inl x1), some (.inl x2), wx3, wx4, wx5] [] M) (kf : x2 < (ld M 92 11) → XW kX12_takes d none (wQv Q) 10 [some (.inr (.inr 92)), some (.inl x1), some (.inl x2), wx3, wx4, wx5] [] M) : XW kX12_takes d none (wQv Q) 2 [some (.inr (.inr 92)), some (.inl x1), some (.inl x2), wx3, wx4, wx5] [] M := by
  refine x_iload_n rfl rfl ?_
  refine x_aload_n rfl rfl ?_
  refine x_getI rfl sh92 rfl ?_
  exact x_icmpge rfl h1 (rng_ld _ _ _) kt kf
theorem uX12_takes_10 {d : Nat} {Q : yM → Prop} {M : yM} {x1 : Int} {x2 : Int} {wx3 : Option yV} {wx4 : Option yV} {wx5 : Option yV} (k : XW kX12_takes d none (wQv Q) 12 [some (.inr (.inr 92)), some (.inl x1), some (.inl x2), some (.inl 0), wx4, wx5] [] M) : XW kX12_takes d none (wQv Q) 10 [some (.inr (.inr 92)), some (.inl x1), some (.inl x2), wx3, wx4, wx5] [] M := by
  refine x_iconst 0 rfl (by decide) ?_
  refine x_istore_n rfl (Nat.le_of_ble_eq_true rfl) rfl ?_
  exact k
theorem uX12_takes_12 {d : Nat} {Q : yM → Prop} {M : yM} {x1 : Int} {x2 : Int} {x3 : Int} {wx4 : Option yV} {wx5 : Option yV} (h1 : -2147483648 ≤ x3 ∧ x3 < 2147483648) (kt : x3 ≥ (ld M 92 11) → XW kX12_takes d none (wQv Q) 109 [some (.inr (.inr 92)), some (.inl x1), some (.inl x2), some (.inl x3), wx4, wx5] [] M) (kf : x3 < (ld M 92 11) → XW kX12_takes d none (wQv Q) 20 [some (.inr (.inr 92)), some (.inl x1), some (.inl x2), some (.inl x3), wx4, wx5] [] M) : XW kX12_takes d none (wQv Q) 12 [some (.inr (.inr 92)), some (.inl x1), some (.inl x2), some (.inl x3), wx4, wx5] [] M := by
  refine x_iload_n rfl rfl ?_
  refine x_aload_n rfl rfl ?_
  refine x_getI rfl sh92 rfl ?_
  exact x_icmpge rfl h1 (rng_ld _ _ _) kt kf
theorem uX12_takes_20 {d : Nat} {Q : yM → Prop} {M : yM} {x1 : Int} {x2 : Int} {x3 : Int} {wx4 : Option yV} {wx5 : Option yV} (h1 : 0 ≤ ((x1 + (8 * x2)) + x3) ∧ ((x1 + (8 * x2)) + x3) < 2048) (k : XW kX12_takes d none (wQv Q) 38 [some (.inr (.inr 92)), some (.inl x1), some (.inl x2), some (.inl x3), some (.inl (ld M 100 ((x1 + (8 * x2)) + x3))), some (.inl 0)] [] M) : XW kX12_takes d none (wQv Q) 20 [some (.inr (.inr 92)), some (.inl x1), some (.inl x2), some (.inl x3), wx4, wx5] [] M := by
  refine x_aload_n rfl rfl ?_
  refine x_getR rfl sh92 rfl ?_
  refine x_iload_n rfl rfl ?_
  refine x_bipush 8 rfl (by decide) ?_
  refine x_iload_n rfl rfl ?_
  refine x_imul rfl ?_
  refine x_iadd rfl ?_
  refine x_iload_n rfl rfl ?_
  refine x_iadd rfl ?_
  refine x_iaload rfl ⟨sh100, Nat.le_of_ble_eq_true rfl⟩ h1 ?_
  refine x_istore rfl (Nat.le_of_ble_eq_true rfl) rfl ?_
  refine x_iconst 0 rfl (by decide) ?_
  refine x_istore rfl (Nat.le_of_ble_eq_true rfl) rfl ?_
  exact k
theorem uX12_takes_38 {d : Nat} {Q : yM → Prop} {M : yM} {x1 : Int} {x2 : Int} {x3 : Int} {x4 : Int} {x5 : Int} (h1 : -2147483648 ≤ x4 ∧ x4 < 2147483648) (kt : x4 = (yshl 1 x5) → XW kX12_takes d none (wQv Q) 53 [some (.inr (.inr 92)), some (.inl x1), some (.inl x2), some (.inl x3), some (.inl x4), some (.inl x5)] [] M) (kf : x4 ≠ (yshl 1 x5) → XW kX12_takes d none (wQv Q) 47 [some (.inr (.inr 92)), some (.inl x1), some (.inl x2), some (.inl x3), some (.inl x4), some (.inl x5)] [] M) : XW kX12_takes d none (wQv Q) 38 [some (.inr (.inr 92)), some (.inl x1), some (.inl x2), some (.inl x3), some (.inl x4), some (.inl x5)] [] M := by
  refine x_iload rfl rfl ?_
  refine x_iconst 1 rfl (by decide) ?_
  refine x_iload rfl rfl ?_
  refine x_ishl rfl ?_
  exact x_icmpeq rfl h1 (rng_yshl _ _) kt kf
theorem uX12_takes_47 {d : Nat} {Q : yM → Prop} {M : yM} {x1 : Int} {x2 : Int} {x3 : Int} {x4 : Int} {x5 : Int} (k : XW kX12_takes d none (wQv Q) 38 [some (.inr (.inr 92)), some (.inl x1), some (.inl x2), some (.inl x3), some (.inl x4), some (.inl (x5 + 1))] [] M) : XW kX12_takes d none (wQv Q) 47 [some (.inr (.inr 92)), some (.inl x1), some (.inl x2), some (.inl x3), some (.inl x4), some (.inl x5)] [] M := by
  refine x_iinc 1 rfl (by decide) rfl rfl ?_
  exact x_goto rfl k
theorem uX12_takes_53 {d : Nat} {Q : yM → Prop} {M : yM} {x1 : Int} {x2 : Int} {x3 : Int} {x4 : Int} {x5 : Int} (kt : (ld M 92 17) ≠ 0 → XW kX12_takes d none (wQv Q) 75 [some (.inr (.inr 92)), some (.inl x1), some (.inl x2), some (.inl x3), some (.inl x4), some (.inl x5)] [.inl ((8 * x2) + x3), .inr (.inr 104)] M) (kf : (ld M 92 17) = 0 → XW kX12_takes d none (wQv Q) 70 [some (.inr (.inr 92)), some (.inl x1), some (.inl x2), some (.inl x3), some (.inl x4), some (.inl x5)] [.inl ((8 * x2) + x3), .inr (.inr 104)] M) : XW kX12_takes d none (wQv Q) 53 [some (.inr (.inr 92)), some (.inl x1), some (.inl x2), some (.inl x3), some (.inl x4), some (.inl x5)] [] M := by
  refine x_aload_n rfl rfl ?_
  refine x_getR rfl sh92 rfl ?_
  refine x_bipush 8 rfl (by decide) ?_
  refine x_iload_n rfl rfl ?_
  refine x_imul rfl ?_
  refine x_iload_n rfl rfl ?_
  refine x_iadd rfl ?_
  refine x_aload_n rfl rfl ?_
  refine x_getI rfl sh92 rfl ?_
  exact x_ifne rfl (rng_ld _ _ _) kt kf
theorem uX12_takes_70 {d : Nat} {Q : yM → Prop} {M : yM} {x1 : Int} {x2 : Int} {x3 : Int} {x4 : Int} {x5 : Int} {s0 : Int} (k : XW kX12_takes d none (wQv Q) 86 [some (.inr (.inr 92)), some (.inl x1), some (.inl x2), some (.inl x3), some (.inl x4), some (.inl x5)] [.inl x5, .inl s0, .inr (.inr 104)] M) : XW kX12_takes d none (wQv Q) 70 [some (.inr (.inr 92)), some (.inl x1), some (.inl x2), some (.inl x3), some (.inl x4), some (.inl x5)] [.inl s0, .inr (.inr 104)] M := by
  refine x_iload rfl rfl ?_
  exact x_goto rfl k
theorem uX12_takes_75 {d : Nat} {Q : yM → Prop} {M : yM} {x1 : Int} {x2 : Int} {x3 : Int} {x4 : Int} {x5 : Int} {s0 : Int} (h1 : 0 ≤ ((8 * x2) + x3) ∧ ((8 * x2) + x3) < 64) (k : XW kX12_takes d none (wQv Q) 86 [some (.inr (.inr 92)), some (.inl x1), some (.inl x2), some (.inl x3), some (.inl x4), some (.inl x5)] [.inl (ld M 104 ((8 * x2) + x3)), .inl s0, .inr (.inr 104)] M) : XW kX12_takes d none (wQv Q) 75 [some (.inr (.inr 92)), some (.inl x1), some (.inl x2), some (.inl x3), some (.inl x4), some (.inl x5)] [.inl s0, .inr (.inr 104)] M := by
  refine x_aload_n rfl rfl ?_
  refine x_getR rfl sh92 rfl ?_
  refine x_bipush 8 rfl (by decide) ?_
  refine x_iload_n rfl rfl ?_
  refine x_imul rfl ?_
  refine x_iload_n rfl rfl ?_
  refine x_iadd rfl ?_
  refine x_iaload rfl ⟨sh104, Nat.le_of_ble_eq_true rfl⟩ h1 ?_
  exact k
theorem uX12_takes_86 {d : Nat} {Q : yM → Prop} {M : yM} {x1 : Int} {x2 : Int} {x3 : Int} {x4 : Int} {x5 : Int} {s0 : Int} {s1 : Int} (h1 : 0 ≤ s1 ∧ s1 < 64) (k : ∀ M', M' = (put M 104 s1 s0) → XW kX12_takes d none (wQv Q) 87 [some (.inr (.inr 92)), some (.inl x1), some (.inl x2), some (.inl x3), some (.inl x4), some (.inl x5)] [] M') : XW kX12_takes d none (wQv Q) 86 [some (.inr (.inr 92)), some (.inl x1), some (.inl x2), some (.inl x3), some (.inl x4), some (.inl x5)] [.inl s0, .inl s1, .inr (.inr 104)] M := by
  refine x_iastore rfl ⟨sh104, Nat.le_of_ble_eq_true rfl⟩ h1  ?_
  exact k _ rfl
theorem uX12_takes_87 {d : Nat} {Q : yM → Prop} {M : yM} {x1 : Int} {x2 : Int} {x3 : Int} {x4 : Int} {x5 : Int} (h1 : 0 ≤ ((8 * x2) + x3) ∧ ((8 * x2) + x3) < 64) (h2 : 0 ≤ ((8 * x2) + x3) ∧ ((8 * x2) + x3) < 64) (k : ∀ M', M' = (put M 105 ((8 * x2) + x3) (yor (ld M 105 ((8 * x2) + x3)) x4)) → XW kX12_takes d none (wQv Q) 103 [some (.inr (.inr 92)), some (.inl x1), some (.inl x2), some (.inl x3), some (.inl x4), some (.inl x5)] [] M') : XW kX12_takes d none (wQv Q) 87 [some (.inr (.inr 92)), some (.inl x1), some (.inl x2), some (.inl x3), some (.inl x4), some (.inl x5)] [] M := by
  refine x_aload_n rfl rfl ?_
  refine x_getR rfl sh92 rfl ?_
  refine x_bipush 8 rfl (by decide) ?_
  refine x_iload_n rfl rfl ?_
  refine x_imul rfl ?_
  refine x_iload_n rfl rfl ?_
  refine x_iadd rfl ?_
  refine x_dup2 rfl ?_
  refine x_iaload rfl ⟨sh105, Nat.le_of_ble_eq_true rfl⟩ h1 ?_
  refine x_iload rfl rfl ?_
  refine x_ior rfl ?_
  refine x_iastore rfl ⟨sh105, Nat.le_of_ble_eq_true rfl⟩ h2  ?_
  exact k _ rfl
theorem uX12_takes_103 {d : Nat} {Q : yM → Prop} {M : yM} {x1 : Int} {x2 : Int} {x3 : Int} {x4 : Int} {x5 : Int} (k : XW kX12_takes d none (wQv Q) 12 [some (.inr (.inr 92)), some (.inl x1), some (.inl x2), some (.inl (x3 + 1)), some (.inl x4), some (.inl x5)] [] M) : XW kX12_takes d none (wQv Q) 103 [some (.inr (.inr 92)), some (.inl x1), some (.inl x2), some (.inl x3), some (.inl x4), some (.inl x5)] [] M := by
  refine x_iinc 1 rfl (by decide) rfl rfl ?_
  exact x_goto rfl k
theorem uX12_takes_109 {d : Nat} {Q : yM → Prop} {M : yM} {x1 : Int} {x2 : Int} {x3 : Int} {wx4 : Option yV} {wx5 : Option yV} (k : XW kX12_takes d none (wQv Q) 2 [some (.inr (.inr 92)), some (.inl x1), some (.inl (x2 + 1)), some (.inl x3), wx4, wx5] [] M) : XW kX12_takes d none (wQv Q) 109 [some (.inr (.inr 92)), some (.inl x1), some (.inl x2), some (.inl x3), wx4, wx5] [] M := by
  refine x_iinc 1 rfl (by decide) rfl rfl ?_
  exact x_goto rfl k
theorem uX12_takes_115 {d : Nat} {Q : yM → Prop} {M : yM} {x1 : Int} {x2 : Int} {wx3 : Option yV} {wx4 : Option yV} {wx5 : Option yV} (k : ∀ M', M' = (put M 92 17 ((ld M 92 17) + 1)) → XW kX12_takes d none (wQv Q) 125 [some (.inr (.inr 92)), some (.inl x1), some (.inl x2), wx3, wx4, wx5] [] M') : XW kX12_takes d none (wQv Q) 115 [some (.inr (.inr 92)), some (.inl x1), some (.inl x2), wx3, wx4, wx5] [] M := by
  refine x_aload_n rfl rfl ?_
  refine x_dupa rfl ?_
  refine x_getI rfl sh92 rfl ?_
  refine x_iconst 1 rfl (by decide) ?_
  refine x_iadd rfl ?_
  refine x_putI rfl rfl sh92 rfl ?_
  exact k _ rfl
theorem uX12_takes_125 {d : Nat} {Q : yM → Prop} {M : yM} {x1 : Int} {x2 : Int} {wx3 : Option yV} {wx4 : Option yV} {wx5 : Option yV} (k : Q M) : XW kX12_takes d none (wQv Q) 125 [some (.inr (.inr 92)), some (.inl x1), some (.inl x2), wx3, wx4, wx5] [] M := by
  exact x_return rfl k
theorem eX12_fillings {d : Nat} {Q : Int → yM → Prop} {M : yM} {x1 : Int}  (h : XW kX12_fillings d (some .int) (wQi Q) 0 [some (.inr (.inr 92)), some (.inl x1)] [] M) : XCi d 156 [.inr (.inr 92), .inl x1] M Q :=
  XC.ofW (Mm := (yX12_fillings, cX12_fillings, 2, (some .int), 13, kX12_fillings)) rfl (rcv_ok sh92) rfl rfl h
theorem uX12_fillings_0 {d : Nat} {Q : Int → yM → Prop} {M : yM} {x1 : Int} (k : ∀ M', M' = (put M 92 0 0) → XW kX12_fillings d (some .int) (wQi Q) 5 [some (.inr (.inr 92)), some (.inl x1)] [] M') : XW kX12_fillings d (some .int) (wQi Q) 0 [some (.inr (.inr 92)), some (.inl x1)] [] M := by
  refine x_aload_n rfl rfl ?_
  refine x_iconst 0 rfl (by decide) ?_
  refine x_putI rfl rfl sh92 rfl ?_
  exact k _ rfl
theorem uX12_fillings_5 {d : Nat} {Q : Int → yM → Prop} {M : yM} {x1 : Int} (k : XCi d 120 [.inl x1, .inl 0, .inl 1] M (fun v M' => XW kX12_fillings (d + 1) (some .int) (wQi Q) 11 [some (.inr (.inr 92)), some (.inl x1)] [.inl v] M')) : XW kX12_fillings (d + 1) (some .int) (wQi Q) 5 [some (.inr (.inr 92)), some (.inl x1)] [] M := by
  refine x_iload_n rfl rfl ?_
  refine x_iconst 0 rfl (by decide) ?_
  refine x_iconst 1 rfl (by decide) ?_
  exact x_calli (args := [.inl x1, .inl 0, .inl 1]) rfl rfl rfl k
theorem uX12_fillings_11 {d : Nat} {Q : Int → yM → Prop} {M : yM} {x1 : Int} {s0 : Int} (h1 : -2147483648 ≤ s0 ∧ s0 < 2147483648) (kt : s0 ≠ 0 → XW kX12_fillings d (some .int) (wQi Q) 16 [some (.inr (.inr 92)), some (.inl x1)] [] M) (kf : s0 = 0 → XW kX12_fillings d (some .int) (wQi Q) 14 [some (.inr (.inr 92)), some (.inl x1)] [] M) : XW kX12_fillings d (some .int) (wQi Q) 11 [some (.inr (.inr 92)), some (.inl x1)] [.inl s0] M := by
  exact x_ifne rfl h1 kt kf
theorem uX12_fillings_14 {d : Nat} {Q : Int → yM → Prop} {M : yM} {x1 : Int} (k : Q (-1) M) : XW kX12_fillings d (some .int) (wQi Q) 14 [some (.inr (.inr 92)), some (.inl x1)] [] M := by
  refine x_iconst (-1) rfl (by decide) ?_
  exact x_ireturn rfl k
theorem uX12_fillings_16 {d : Nat} {Q : Int → yM → Prop} {M : yM} {x1 : Int} (k : XCv d 146 [.inr (.inr 92), .inl 0, .inl 64] M (fun M' => XW kX12_fillings (d + 1) (some .int) (wQi Q) 23 [some (.inr (.inr 92)), some (.inl x1)] [] M')) : XW kX12_fillings (d + 1) (some .int) (wQi Q) 16 [some (.inr (.inr 92)), some (.inl x1)] [] M := by
  refine x_aload_n rfl rfl ?_
  refine x_iconst 0 rfl (by decide) ?_
  refine x_bipush 64 rfl (by decide) ?_
  exact x_callv (args := [.inr (.inr 92), .inl 0, .inl 64]) rfl rfl rfl k
theorem uX12_fillings_23 {d : Nat} {Q : Int → yM → Prop} {M : yM} {x1 : Int} (h1 : -2147483648 ≤ x1 ∧ x1 < 2147483648) (kt : x1 ≠ 1 → XW kX12_fillings d (some .int) (wQi Q) 33 [some (.inr (.inr 92)), some (.inl x1)] [.inr (.inr 92)] M) (kf : x1 = 1 → XW kX12_fillings d (some .int) (wQi Q) 29 [some (.inr (.inr 92)), some (.inl x1)] [.inr (.inr 92)] M) : XW kX12_fillings d (some .int) (wQi Q) 23 [some (.inr (.inr 92)), some (.inl x1)] [] M := by
  refine x_aload_n rfl rfl ?_
  refine x_iload_n rfl rfl ?_
  refine x_iconst 1 rfl (by decide) ?_
  exact x_icmpne rfl h1 (by decide) kt kf
theorem uX12_fillings_29 {d : Nat} {Q : Int → yM → Prop} {M : yM} {x1 : Int} (k : XW kX12_fillings d (some .int) (wQi Q) 36 [some (.inr (.inr 92)), some (.inl x1)] [.inl 1, .inr (.inr 92)] M) : XW kX12_fillings d (some .int) (wQi Q) 29 [some (.inr (.inr 92)), some (.inl x1)] [.inr (.inr 92)] M := by
  refine x_iconst 1 rfl (by decide) ?_
  exact x_goto rfl k
theorem uX12_fillings_33 {d : Nat} {Q : Int → yM → Prop} {M : yM} {x1 : Int} (k : XW kX12_fillings d (some .int) (wQi Q) 36 [some (.inr (.inr 92)), some (.inl x1)] [.inl 20001, .inr (.inr 92)] M) : XW kX12_fillings d (some .int) (wQi Q) 33 [some (.inr (.inr 92)), some (.inl x1)] [.inr (.inr 92)] M := by
  refine x_sipush 20001 rfl (by decide) ?_
  exact k
theorem uX12_fillings_36 {d : Nat} {Q : Int → yM → Prop} {M : yM} {x1 : Int} {s0 : Int} (k : XCv d 154 [.inr (.inr 92), .inl s0] M (fun M' => XW kX12_fillings (d + 1) (some .int) (wQi Q) 39 [some (.inr (.inr 92)), some (.inl x1)] [] M')) : XW kX12_fillings (d + 1) (some .int) (wQi Q) 36 [some (.inr (.inr 92)), some (.inl x1)] [.inl s0, .inr (.inr 92)] M := by
  exact x_callv (args := [.inr (.inr 92), .inl s0]) rfl rfl rfl k
theorem uX12_fillings_39 {d : Nat} {Q : Int → yM → Prop} {M : yM} {x1 : Int} (h1 : -2147483648 ≤ x1 ∧ x1 < 2147483648) (kt : x1 ≠ 1 → XW kX12_fillings d (some .int) (wQi Q) 51 [some (.inr (.inr 92)), some (.inl x1)] [] M) (kf : x1 = 1 → XW kX12_fillings d (some .int) (wQi Q) 44 [some (.inr (.inr 92)), some (.inl x1)] [] M) : XW kX12_fillings d (some .int) (wQi Q) 39 [some (.inr (.inr 92)), some (.inl x1)] [] M := by
  refine x_iload_n rfl rfl ?_
  refine x_iconst 1 rfl (by decide) ?_
  exact x_icmpne rfl h1 (by decide) kt kf
theorem uX12_fillings_44 {d : Nat} {Q : Int → yM → Prop} {M : yM} {x1 : Int} (k : XW kX12_fillings d (some .int) (wQi Q) 70 [some (.inr (.inr 92)), some (.inl x1)] [.inl (ld M 92 17)] M) : XW kX12_fillings d (some .int) (wQi Q) 44 [some (.inr (.inr 92)), some (.inl x1)] [] M := by
  refine x_aload_n rfl rfl ?_
  refine x_getI rfl sh92 rfl ?_
  exact x_goto rfl k
theorem uX12_fillings_51 {d : Nat} {Q : Int → yM → Prop} {M : yM} {x1 : Int} (kt : (ld M 92 17) ≤ 20000 → XW kX12_fillings d (some .int) (wQi Q) 66 [some (.inr (.inr 92)), some (.inl x1)] [] M) (kf : (ld M 92 17) > 20000 → XW kX12_fillings d (some .int) (wQi Q) 61 [some (.inr (.inr 92)), some (.inl x1)] [] M) : XW kX12_fillings d (some .int) (wQi Q) 51 [some (.inr (.inr 92)), some (.inl x1)] [] M := by
  refine x_aload_n rfl rfl ?_
  refine x_getI rfl sh92 rfl ?_
  refine x_sipush 20000 rfl (by decide) ?_
  exact x_icmple rfl (rng_ld _ _ _) (by decide) kt kf
theorem uX12_fillings_61 {d : Nat} {Q : Int → yM → Prop} {M : yM} {x1 : Int} (k : XW kX12_fillings d (some .int) (wQi Q) 70 [some (.inr (.inr 92)), some (.inl x1)] [.inl (-5)] M) : XW kX12_fillings d (some .int) (wQi Q) 61 [some (.inr (.inr 92)), some (.inl x1)] [] M := by
  refine x_bipush (-5) rfl (by decide) ?_
  exact x_goto rfl k
theorem uX12_fillings_66 {d : Nat} {Q : Int → yM → Prop} {M : yM} {x1 : Int} (k : XW kX12_fillings d (some .int) (wQi Q) 70 [some (.inr (.inr 92)), some (.inl x1)] [.inl (ld M 92 17)] M) : XW kX12_fillings d (some .int) (wQi Q) 66 [some (.inr (.inr 92)), some (.inl x1)] [] M := by
  refine x_aload_n rfl rfl ?_
  refine x_getI rfl sh92 rfl ?_
  exact k
theorem uX12_fillings_70 {d : Nat} {Q : Int → yM → Prop} {M : yM} {x1 : Int} {s0 : Int} (k : Q s0 M) : XW kX12_fillings d (some .int) (wQi Q) 70 [some (.inr (.inr 92)), some (.inl x1)] [.inl s0] M := by
  exact x_ireturn rfl k
theorem eX12_first {d : Nat} {Q : Int → yM → Prop} {M : yM} {x1 : Int} {x2 : Int}  (h : XW kX12_first d (some .int) (wQi Q) 0 [some (.inr (.inr 92)), some (.inl x1), some (.inl x2)] [] M) : XCi d 157 [.inr (.inr 92), .inl x1, .inl x2] M Q :=
  XC.ofW (Mm := (yX12_first, cX12_first, 3, (some .int), 13, kX12_first)) rfl (rcv_ok sh92) rfl rfl h
theorem uX12_first_0 {d : Nat} {Q : Int → yM → Prop} {M : yM} {x1 : Int} {x2 : Int} (k : ∀ M', M' = (put M 92 0 0) → XW kX12_first d (some .int) (wQi Q) 5 [some (.inr (.inr 92)), some (.inl x1), some (.inl x2)] [] M') : XW kX12_first d (some .int) (wQi Q) 0 [some (.inr (.inr 92)), some (.inl x1), some (.inl x2)] [] M := by
  refine x_aload_n rfl rfl ?_
  refine x_iconst 0 rfl (by decide) ?_
  refine x_putI rfl rfl sh92 rfl ?_
  exact k _ rfl
theorem uX12_first_5 {d : Nat} {Q : Int → yM → Prop} {M : yM} {x1 : Int} {x2 : Int} (k : XCi d 124 [.inr (.inr 92), .inl x1] M (fun v M' => XW kX12_first (d + 1) (some .int) (wQi Q) 10 [some (.inr (.inr 92)), some (.inl x1), some (.inl x2)] [.inl v] M')) : XW kX12_first (d + 1) (some .int) (wQi Q) 5 [some (.inr (.inr 92)), some (.inl x1), some (.inl x2)] [] M := by
  refine x_aload_n rfl rfl ?_
  refine x_iload_n rfl rfl ?_
  exact x_calli (args := [.inr (.inr 92), .inl x1]) rfl rfl rfl k
theorem uX12_first_10 {d : Nat} {Q : Int → yM → Prop} {M : yM} {x1 : Int} {x2 : Int} {s0 : Int} (h1 : -2147483648 ≤ s0 ∧ s0 < 2147483648) (kt : s0 = 0 → XW kX12_first d (some .int) (wQi Q) 21 [some (.inr (.inr 92)), some (.inl x1), some (.inl x2)] [] M) (kf : s0 ≠ 0 → XW kX12_first d (some .int) (wQi Q) 13 [some (.inr (.inr 92)), some (.inl x1), some (.inl x2)] [] M) : XW kX12_first d (some .int) (wQi Q) 10 [some (.inr (.inr 92)), some (.inl x1), some (.inl x2)] [.inl s0] M := by
  exact x_ifeq rfl h1 kt kf
theorem uX12_first_13 {d : Nat} {Q : Int → yM → Prop} {M : yM} {x1 : Int} {x2 : Int} (k : XCi d 124 [.inr (.inr 92), .inl x2] M (fun v M' => XW kX12_first (d + 1) (some .int) (wQi Q) 18 [some (.inr (.inr 92)), some (.inl x1), some (.inl x2)] [.inl v] M')) : XW kX12_first (d + 1) (some .int) (wQi Q) 13 [some (.inr (.inr 92)), some (.inl x1), some (.inl x2)] [] M := by
  refine x_aload_n rfl rfl ?_
  refine x_iload_n rfl rfl ?_
  exact x_calli (args := [.inr (.inr 92), .inl x2]) rfl rfl rfl k
theorem uX12_first_18 {d : Nat} {Q : Int → yM → Prop} {M : yM} {x1 : Int} {x2 : Int} {s0 : Int} (h1 : -2147483648 ≤ s0 ∧ s0 < 2147483648) (kt : s0 ≠ 0 → XW kX12_first d (some .int) (wQi Q) 23 [some (.inr (.inr 92)), some (.inl x1), some (.inl x2)] [] M) (kf : s0 = 0 → XW kX12_first d (some .int) (wQi Q) 21 [some (.inr (.inr 92)), some (.inl x1), some (.inl x2)] [] M) : XW kX12_first d (some .int) (wQi Q) 18 [some (.inr (.inr 92)), some (.inl x1), some (.inl x2)] [.inl s0] M := by
  exact x_ifne rfl h1 kt kf
theorem uX12_first_21 {d : Nat} {Q : Int → yM → Prop} {M : yM} {x1 : Int} {x2 : Int} (k : Q (-1) M) : XW kX12_first d (some .int) (wQi Q) 21 [some (.inr (.inr 92)), some (.inl x1), some (.inl x2)] [] M := by
  refine x_iconst (-1) rfl (by decide) ?_
  exact x_ireturn rfl k
theorem uX12_first_23 {d : Nat} {Q : Int → yM → Prop} {M : yM} {x1 : Int} {x2 : Int} (k : XCv d 146 [.inr (.inr 92), .inl 0, .inl 64] M (fun M' => XW kX12_first (d + 1) (some .int) (wQi Q) 30 [some (.inr (.inr 92)), some (.inl x1), some (.inl x2)] [] M')) : XW kX12_first (d + 1) (some .int) (wQi Q) 23 [some (.inr (.inr 92)), some (.inl x1), some (.inl x2)] [] M := by
  refine x_aload_n rfl rfl ?_
  refine x_iconst 0 rfl (by decide) ?_
  refine x_bipush 64 rfl (by decide) ?_
  exact x_callv (args := [.inr (.inr 92), .inl 0, .inl 64]) rfl rfl rfl k
theorem uX12_first_30 {d : Nat} {Q : Int → yM → Prop} {M : yM} {x1 : Int} {x2 : Int} (k : XCv d 154 [.inr (.inr 92), .inl 1] M (fun M' => XW kX12_first (d + 1) (some .int) (wQi Q) 35 [some (.inr (.inr 92)), some (.inl x1), some (.inl x2)] [] M')) : XW kX12_first (d + 1) (some .int) (wQi Q) 30 [some (.inr (.inr 92)), some (.inl x1), some (.inl x2)] [] M := by
  refine x_aload_n rfl rfl ?_
  refine x_iconst 1 rfl (by decide) ?_
  exact x_callv (args := [.inr (.inr 92), .inl 1]) rfl rfl rfl k
theorem uX12_first_35 {d : Nat} {Q : Int → yM → Prop} {M : yM} {x1 : Int} {x2 : Int} (h1 : 0 ≤ ((8 * x1) + x2) ∧ ((8 * x1) + x2) < 64) (k : Q (ld M 104 ((8 * x1) + x2)) M) : XW kX12_first d (some .int) (wQi Q) 35 [some (.inr (.inr 92)), some (.inl x1), some (.inl x2)] [] M := by
  refine x_aload_n rfl rfl ?_
  refine x_getR rfl sh92 rfl ?_
  refine x_bipush 8 rfl (by decide) ?_
  refine x_iload_n rfl rfl ?_
  refine x_imul rfl ?_
  refine x_iload_n rfl rfl ?_
  refine x_iadd rfl ?_
  refine x_iaload rfl ⟨sh104, Nat.le_of_ble_eq_true rfl⟩ h1 ?_
  exact x_ireturn rfl k
theorem eX12_sure {d : Nat} {Q : Int → yM → Prop} {M : yM} {x1 : Int} {x2 : Int}  (h : XW kX12_sure d (some .int) (wQi Q) 0 [some (.inr (.inr 92)), some (.inl x1), some (.inl x2)] [] M) : XCi d 158 [.inr (.inr 92), .inl x1, .inl x2] M Q :=
  XC.ofW (Mm := (yX12_sure, cX12_sure, 3, (some .int), 13, kX12_sure)) rfl (rcv_ok sh92) rfl rfl h
theorem uX12_sure_0 {d : Nat} {Q : Int → yM → Prop} {M : yM} {x1 : Int} {x2 : Int} (k : ∀ M', M' = (put M 92 0 0) → XW kX12_sure d (some .int) (wQi Q) 5 [some (.inr (.inr 92)), some (.inl x1), some (.inl x2)] [] M') : XW kX12_sure d (some .int) (wQi Q) 0 [some (.inr (.inr 92)), some (.inl x1), some (.inl x2)] [] M := by
  refine x_aload_n rfl rfl ?_
  refine x_iconst 0 rfl (by decide) ?_
  refine x_putI rfl rfl sh92 rfl ?_
  exact k _ rfl
theorem uX12_sure_5 {d : Nat} {Q : Int → yM → Prop} {M : yM} {x1 : Int} {x2 : Int} (k : XCi d 124 [.inr (.inr 92), .inl x1] M (fun v M' => XW kX12_sure (d + 1) (some .int) (wQi Q) 10 [some (.inr (.inr 92)), some (.inl x1), some (.inl x2)] [.inl v] M')) : XW kX12_sure (d + 1) (some .int) (wQi Q) 5 [some (.inr (.inr 92)), some (.inl x1), some (.inl x2)] [] M := by
  refine x_aload_n rfl rfl ?_
  refine x_iload_n rfl rfl ?_
  exact x_calli (args := [.inr (.inr 92), .inl x1]) rfl rfl rfl k
theorem uX12_sure_10 {d : Nat} {Q : Int → yM → Prop} {M : yM} {x1 : Int} {x2 : Int} {s0 : Int} (h1 : -2147483648 ≤ s0 ∧ s0 < 2147483648) (kt : s0 = 0 → XW kX12_sure d (some .int) (wQi Q) 21 [some (.inr (.inr 92)), some (.inl x1), some (.inl x2)] [] M) (kf : s0 ≠ 0 → XW kX12_sure d (some .int) (wQi Q) 13 [some (.inr (.inr 92)), some (.inl x1), some (.inl x2)] [] M) : XW kX12_sure d (some .int) (wQi Q) 10 [some (.inr (.inr 92)), some (.inl x1), some (.inl x2)] [.inl s0] M := by
  exact x_ifeq rfl h1 kt kf
theorem uX12_sure_13 {d : Nat} {Q : Int → yM → Prop} {M : yM} {x1 : Int} {x2 : Int} (k : XCi d 124 [.inr (.inr 92), .inl x2] M (fun v M' => XW kX12_sure (d + 1) (some .int) (wQi Q) 18 [some (.inr (.inr 92)), some (.inl x1), some (.inl x2)] [.inl v] M')) : XW kX12_sure (d + 1) (some .int) (wQi Q) 13 [some (.inr (.inr 92)), some (.inl x1), some (.inl x2)] [] M := by
  refine x_aload_n rfl rfl ?_
  refine x_iload_n rfl rfl ?_
  exact x_calli (args := [.inr (.inr 92), .inl x2]) rfl rfl rfl k
theorem uX12_sure_18 {d : Nat} {Q : Int → yM → Prop} {M : yM} {x1 : Int} {x2 : Int} {s0 : Int} (h1 : -2147483648 ≤ s0 ∧ s0 < 2147483648) (kt : s0 ≠ 0 → XW kX12_sure d (some .int) (wQi Q) 23 [some (.inr (.inr 92)), some (.inl x1), some (.inl x2)] [] M) (kf : s0 = 0 → XW kX12_sure d (some .int) (wQi Q) 21 [some (.inr (.inr 92)), some (.inl x1), some (.inl x2)] [] M) : XW kX12_sure d (some .int) (wQi Q) 18 [some (.inr (.inr 92)), some (.inl x1), some (.inl x2)] [.inl s0] M := by
  exact x_ifne rfl h1 kt kf
theorem uX12_sure_21 {d : Nat} {Q : Int → yM → Prop} {M : yM} {x1 : Int} {x2 : Int} (k : Q (-1) M) : XW kX12_sure d (some .int) (wQi Q) 21 [some (.inr (.inr 92)), some (.inl x1), some (.inl x2)] [] M := by
  refine x_iconst (-1) rfl (by decide) ?_
  exact x_ireturn rfl k
theorem uX12_sure_23 {d : Nat} {Q : Int → yM → Prop} {M : yM} {x1 : Int} {x2 : Int} (k : XCv d 146 [.inr (.inr 92), .inl 0, .inl 64] M (fun M' => XW kX12_sure (d + 1) (some .int) (wQi Q) 30 [some (.inr (.inr 92)), some (.inl x1), some (.inl x2)] [] M')) : XW kX12_sure (d + 1) (some .int) (wQi Q) 23 [some (.inr (.inr 92)), some (.inl x1), some (.inl x2)] [] M := by
  refine x_aload_n rfl rfl ?_
  refine x_iconst 0 rfl (by decide) ?_
  refine x_bipush 64 rfl (by decide) ?_
  exact x_callv (args := [.inr (.inr 92), .inl 0, .inl 64]) rfl rfl rfl k
theorem uX12_sure_30 {d : Nat} {Q : Int → yM → Prop} {M : yM} {x1 : Int} {x2 : Int} (k : XCv d 154 [.inr (.inr 92), .inl 20001] M (fun M' => XW kX12_sure (d + 1) (some .int) (wQi Q) 37 [some (.inr (.inr 92)), some (.inl x1), some (.inl x2)] [] M')) : XW kX12_sure (d + 1) (some .int) (wQi Q) 30 [some (.inr (.inr 92)), some (.inl x1), some (.inl x2)] [] M := by
  refine x_aload_n rfl rfl ?_
  refine x_sipush 20001 rfl (by decide) ?_
  exact x_callv (args := [.inr (.inr 92), .inl 20001]) rfl rfl rfl k
theorem uX12_sure_37 {d : Nat} {Q : Int → yM → Prop} {M : yM} {x1 : Int} {x2 : Int} (kt : (ld M 92 17) ≤ 20000 → XW kX12_sure d (some .int) (wQi Q) 52 [some (.inr (.inr 92)), some (.inl x1), some (.inl x2)] [] M) (kf : (ld M 92 17) > 20000 → XW kX12_sure d (some .int) (wQi Q) 47 [some (.inr (.inr 92)), some (.inl x1), some (.inl x2)] [] M) : XW kX12_sure d (some .int) (wQi Q) 37 [some (.inr (.inr 92)), some (.inl x1), some (.inl x2)] [] M := by
  refine x_aload_n rfl rfl ?_
  refine x_getI rfl sh92 rfl ?_
  refine x_sipush 20000 rfl (by decide) ?_
  exact x_icmple rfl (rng_ld _ _ _) (by decide) kt kf
theorem uX12_sure_47 {d : Nat} {Q : Int → yM → Prop} {M : yM} {x1 : Int} {x2 : Int} (k : XW kX12_sure d (some .int) (wQi Q) 63 [some (.inr (.inr 92)), some (.inl x1), some (.inl x2)] [.inl (-5)] M) : XW kX12_sure d (some .int) (wQi Q) 47 [some (.inr (.inr 92)), some (.inl x1), some (.inl x2)] [] M := by
  refine x_bipush (-5) rfl (by decide) ?_
  exact x_goto rfl k
theorem uX12_sure_52 {d : Nat} {Q : Int → yM → Prop} {M : yM} {x1 : Int} {x2 : Int} (h1 : 0 ≤ ((8 * x1) + x2) ∧ ((8 * x1) + x2) < 64) (k : XW kX12_sure d (some .int) (wQi Q) 63 [some (.inr (.inr 92)), some (.inl x1), some (.inl x2)] [.inl (ld M 105 ((8 * x1) + x2))] M) : XW kX12_sure d (some .int) (wQi Q) 52 [some (.inr (.inr 92)), some (.inl x1), some (.inl x2)] [] M := by
  refine x_aload_n rfl rfl ?_
  refine x_getR rfl sh92 rfl ?_
  refine x_bipush 8 rfl (by decide) ?_
  refine x_iload_n rfl rfl ?_
  refine x_imul rfl ?_
  refine x_iload_n rfl rfl ?_
  refine x_iadd rfl ?_
  refine x_iaload rfl ⟨sh105, Nat.le_of_ble_eq_true rfl⟩ h1 ?_
  exact k
theorem uX12_sure_63 {d : Nat} {Q : Int → yM → Prop} {M : yM} {x1 : Int} {x2 : Int} {s0 : Int} (k : Q s0 M) : XW kX12_sure d (some .int) (wQi Q) 63 [some (.inr (.inr 92)), some (.inl x1), some (.inl x2)] [.inl s0] M := by
  exact x_ireturn rfl k
theorem eX12_ones {d : Nat} {Q : Int → yM → Prop} {M : yM} {x0 : Int}  (h : XW kX12_ones d (some .int) (wQi Q) 0 [some (.inl x0), none, none] [] M) : XCi d 159 [.inl x0] M Q :=
  XC.ofW (Mm := (yX12_ones, cX12_ones, 3, (some .int), 0, kX12_ones)) rfl rfl rfl rfl h
theorem uX12_ones_0 {d : Nat} {Q : Int → yM → Prop} {M : yM} {x0 : Int} (k : XW kX12_ones d (some .int) (wQi Q) 4 [some (.inl x0), some (.inl 0), some (.inl 0)] [] M) : XW kX12_ones d (some .int) (wQi Q) 0 [some (.inl x0), none, none] [] M := by
  refine x_iconst 0 rfl (by decide) ?_
  refine x_istore_n rfl (Nat.le_of_ble_eq_true rfl) rfl ?_
  refine x_iconst 0 rfl (by decide) ?_
  refine x_istore_n rfl (Nat.le_of_ble_eq_true rfl) rfl ?_
  exact k
theorem uX12_ones_4 {d : Nat} {Q : Int → yM → Prop} {M : yM} {x0 : Int} {x1 : Int} {x2 : Int} (h1 : -2147483648 ≤ x2 ∧ x2 < 2147483648) (kt : x2 ≥ 12 → XW kX12_ones d (some .int) (wQi Q) 24 [some (.inl x0), some (.inl x1), some (.inl x2)] [] M) (kf : x2 < 12 → XW kX12_ones d (some .int) (wQi Q) 10 [some (.inl x0), some (.inl x1), some (.inl x2)] [] M) : XW kX12_ones d (some .int) (wQi Q) 4 [some (.inl x0), some (.inl x1), some (.inl x2)] [] M := by
  refine x_iload_n rfl rfl ?_
  refine x_bipush 12 rfl (by decide) ?_
  exact x_icmpge rfl h1 (by decide) kt kf
theorem uX12_ones_10 {d : Nat} {Q : Int → yM → Prop} {M : yM} {x0 : Int} {x1 : Int} {x2 : Int} (k : XW kX12_ones d (some .int) (wQi Q) 4 [some (.inl x0), some (.inl (x1 + (yand (yshr x0 x2) 1))), some (.inl (x2 + 1))] [] M) : XW kX12_ones d (some .int) (wQi Q) 10 [some (.inl x0), some (.inl x1), some (.inl x2)] [] M := by
  refine x_iload_n rfl rfl ?_
  refine x_iload_n rfl rfl ?_
  refine x_iload_n rfl rfl ?_
  refine x_ishr rfl ?_
  refine x_iconst 1 rfl (by decide) ?_
  refine x_iand rfl ?_
  refine x_iadd rfl ?_
  refine x_istore_n rfl (Nat.le_of_ble_eq_true rfl) rfl ?_
  refine x_iinc 1 rfl (by decide) rfl rfl ?_
  exact x_goto rfl k
theorem uX12_ones_24 {d : Nat} {Q : Int → yM → Prop} {M : yM} {x0 : Int} {x1 : Int} {x2 : Int} (k : Q x1 M) : XW kX12_ones d (some .int) (wQi Q) 24 [some (.inl x0), some (.inl x1), some (.inl x2)] [] M := by
  refine x_iload_n rfl rfl ?_
  exact x_ireturn rfl k
theorem eX12_has {d : Nat} {Q : Int → yM → Prop} {M : yM} {x1 : Int}  (h : XW kX12_has d (some .boolean) (wQi Q) 0 [some (.inr (.inr 92)), some (.inl x1), none, none, none, none, none] [] M) : XCi d 160 [.inr (.inr 92), .inl x1] M Q :=
  XC.ofW (Mm := (yX12_has, cX12_has, 7, (some .boolean), 13, kX12_has)) rfl (rcv_ok sh92) rfl rfl h
theorem uX12_has_0 {d : Nat} {Q : Int → yM → Prop} {M : yM} {x1 : Int} (k : XW kX12_has d (some .boolean) (wQi Q) 4 [some (.inr (.inr 92)), some (.inl x1), some (.inl 0), some (.inl 0), none, none, none] [] M) : XW kX12_has d (some .boolean) (wQi Q) 0 [some (.inr (.inr 92)), some (.inl x1), none, none, none, none, none] [] M := by
  refine x_iconst 0 rfl (by decide) ?_
  refine x_istore_n rfl (Nat.le_of_ble_eq_true rfl) rfl ?_
  refine x_iconst 0 rfl (by decide) ?_
  refine x_istore_n rfl (Nat.le_of_ble_eq_true rfl) rfl ?_
  exact k
theorem uX12_has_4 {d : Nat} {Q : Int → yM → Prop} {M : yM} {x1 : Int} {x2 : Int} {x3 : Int} {wx4 : Option yV} {wx5 : Option yV} {wx6 : Option yV} (h1 : -2147483648 ≤ x3 ∧ x3 < 2147483648) (kt : x3 ≥ (ld M 92 11) → XW kX12_has d (some .boolean) (wQi Q) 128 [some (.inr (.inr 92)), some (.inl x1), some (.inl x2), some (.inl x3), wx4, wx5, wx6] [] M) (kf : x3 < (ld M 92 11) → XW kX12_has d (some .boolean) (wQi Q) 12 [some (.inr (.inr 92)), some (.inl x1), some (.inl x2), some (.inl x3), wx4, wx5, wx6] [] M) : XW kX12_has d (some .boolean) (wQi Q) 4 [some (.inr (.inr 92)), some (.inl x1), some (.inl x2), some (.inl x3), wx4, wx5, wx6] [] M := by
  refine x_iload_n rfl rfl ?_
  refine x_aload_n rfl rfl ?_
  refine x_getI rfl sh92 rfl ?_
  exact x_icmpge rfl h1 (rng_ld _ _ _) kt kf
theorem uX12_has_12 {d : Nat} {Q : Int → yM → Prop} {M : yM} {x1 : Int} {x2 : Int} {x3 : Int} {wx4 : Option yV} {wx5 : Option yV} {wx6 : Option yV} (h1 : 0 ≤ ((64 + (8 * x3)) + x3) ∧ ((64 + (8 * x3)) + x3) < 2048) (k : ∀ M', M' = (put M 100 ((64 + (8 * x3)) + x3) 1) → XW kX12_has d (some .boolean) (wQi Q) 27 [some (.inr (.inr 92)), some (.inl x1), some (.inl x2), some (.inl x3), wx4, wx5, wx6] [] M') : XW kX12_has d (some .boolean) (wQi Q) 12 [some (.inr (.inr 92)), some (.inl x1), some (.inl x2), some (.inl x3), wx4, wx5, wx6] [] M := by
  refine x_aload_n rfl rfl ?_
  refine x_getR rfl sh92 rfl ?_
  refine x_bipush 64 rfl (by decide) ?_
  refine x_bipush 8 rfl (by decide) ?_
  refine x_iload_n rfl rfl ?_
  refine x_imul rfl ?_
  refine x_iadd rfl ?_
  refine x_iload_n rfl rfl ?_
  refine x_iadd rfl ?_
  refine x_iconst 1 rfl (by decide) ?_
  refine x_iastore rfl ⟨sh100, Nat.le_of_ble_eq_true rfl⟩ h1  ?_
  exact k _ rfl
theorem uX12_has_27 {d : Nat} {Q : Int → yM → Prop} {M : yM} {x1 : Int} {x2 : Int} {x3 : Int} {wx4 : Option yV} {wx5 : Option yV} {wx6 : Option yV} (k : XW kX12_has d (some .boolean) (wQi Q) 32 [some (.inr (.inr 92)), some (.inl x1), some (.inl x2), some (.inl x3), some (.inl (x3 + 1)), wx5, wx6] [] M) : XW kX12_has d (some .boolean) (wQi Q) 27 [some (.inr (.inr 92)), some (.inl x1), some (.inl x2), some (.inl x3), wx4, wx5, wx6] [] M := by
  refine x_iload_n rfl rfl ?_
  refine x_iconst 1 rfl (by decide) ?_
  refine x_iadd rfl ?_
  refine x_istore rfl (Nat.le_of_ble_eq_true rfl) rfl ?_
  exact k
theorem uX12_has_32 {d : Nat} {Q : Int → yM → Prop} {M : yM} {x1 : Int} {x2 : Int} {x3 : Int} {x4 : Int} {wx5 : Option yV} {wx6 : Option yV} (h1 : -2147483648 ≤ x4 ∧ x4 < 2147483648) (kt : x4 ≥ (ld M 92 11) → XW kX12_has d (some .boolean) (wQi Q) 122 [some (.inr (.inr 92)), some (.inl x1), some (.inl x2), some (.inl x3), some (.inl x4), wx5, wx6] [] M) (kf : x4 < (ld M 92 11) → XW kX12_has d (some .boolean) (wQi Q) 41 [some (.inr (.inr 92)), some (.inl x1), some (.inl x2), some (.inl x3), some (.inl x4), wx5, wx6] [] M) : XW kX12_has d (some .boolean) (wQi Q) 32 [some (.inr (.inr 92)), some (.inl x1), some (.inl x2), some (.inl x3), some (.inl x4), wx5, wx6] [] M := by
  refine x_iload rfl rfl ?_
  refine x_aload_n rfl rfl ?_
  refine x_getI rfl sh92 rfl ?_
  exact x_icmpge rfl h1 (rng_ld _ _ _) kt kf
theorem uX12_has_41 {d : Nat} {Q : Int → yM → Prop} {M : yM} {x1 : Int} {x2 : Int} {x3 : Int} {x4 : Int} {wx5 : Option yV} {wx6 : Option yV} (h1 : 0 ≤ ((8 * x3) + x4) ∧ ((8 * x3) + x4) < 2048) (k : XCi d 121 [.inr (.inr 92)] M (fun v M' => XW kX12_has (d + 1) (some .boolean) (wQi Q) 61 [some (.inr (.inr 92)), some (.inl x1), some (.inl x2), some (.inl x3), some (.inl x4), some (.inl (ld M 100 ((8 * x3) + x4))), wx6] [.inl v, .inl (ld M 100 ((8 * x3) + x4))] M')) : XW kX12_has (d + 1) (some .boolean) (wQi Q) 41 [some (.inr (.inr 92)), some (.inl x1), some (.inl x2), some (.inl x3), some (.inl x4), wx5, wx6] [] M := by
  refine x_aload_n rfl rfl ?_
  refine x_getR rfl sh92 rfl ?_
  refine x_bipush 8 rfl (by decide) ?_
  refine x_iload_n rfl rfl ?_
  refine x_imul rfl ?_
  refine x_iload rfl rfl ?_
  refine x_iadd rfl ?_
  refine x_iaload rfl ⟨sh100, Nat.le_of_ble_eq_true rfl⟩ h1 ?_
  refine x_istore rfl (Nat.le_of_ble_eq_true rfl) rfl ?_
  refine x_iload rfl rfl ?_
  refine x_aload_n rfl rfl ?_
  exact x_calli (args := [.inr (.inr 92)]) rfl rfl rfl k
theorem uX12_has_61 {d : Nat} {Q : Int → yM → Prop} {M : yM} {x1 : Int} {x2 : Int} {x3 : Int} {x4 : Int} {x5 : Int} {wx6 : Option yV} {s0 : Int} {s1 : Int} (h1 : -2147483648 ≤ s1 ∧ s1 < 2147483648) (h2 : -2147483648 ≤ s0 ∧ s0 < 2147483648) (kt : s1 = s0 → XW kX12_has d (some .boolean) (wQi Q) 68 [some (.inr (.inr 92)), some (.inl x1), some (.inl x2), some (.inl x3), some (.inl x4), some (.inl x5), wx6] [] M) (kf : s1 ≠ s0 → XW kX12_has d (some .boolean) (wQi Q) 64 [some (.inr (.inr 92)), some (.inl x1), some (.inl x2), some (.inl x3), some (.inl x4), some (.inl x5), wx6] [] M) : XW kX12_has d (some .boolean) (wQi Q) 61 [some (.inr (.inr 92)), some (.inl x1), some (.inl x2), some (.inl x3), some (.inl x4), some (.inl x5), wx6] [.inl s0, .inl s1] M := by
  exact x_icmpeq rfl h1 h2 kt kf
theorem uX12_has_64 {d : Nat} {Q : Int → yM → Prop} {M : yM} {x1 : Int} {x2 : Int} {x3 : Int} {x4 : Int} {x5 : Int} {wx6 : Option yV} (k : XW kX12_has d (some .boolean) (wQi Q) 69 [some (.inr (.inr 92)), some (.inl x1), some (.inl x2), some (.inl x3), some (.inl x4), some (.inl x5), wx6] [.inl 1] M) : XW kX12_has d (some .boolean) (wQi Q) 64 [some (.inr (.inr 92)), some (.inl x1), some (.inl x2), some (.inl x3), some (.inl x4), some (.inl x5), wx6] [] M := by
  refine x_iconst 1 rfl (by decide) ?_
  exact x_goto rfl k
theorem uX12_has_68 {d : Nat} {Q : Int → yM → Prop} {M : yM} {x1 : Int} {x2 : Int} {x3 : Int} {x4 : Int} {x5 : Int} {wx6 : Option yV} (k : XW kX12_has d (some .boolean) (wQi Q) 69 [some (.inr (.inr 92)), some (.inl x1), some (.inl x2), some (.inl x3), some (.inl x4), some (.inl x5), wx6] [.inl 0] M) : XW kX12_has d (some .boolean) (wQi Q) 68 [some (.inr (.inr 92)), some (.inl x1), some (.inl x2), some (.inl x3), some (.inl x4), some (.inl x5), wx6] [] M := by
  refine x_iconst 0 rfl (by decide) ?_
  exact k
theorem uX12_has_69 {d : Nat} {Q : Int → yM → Prop} {M : yM} {x1 : Int} {x2 : Int} {x3 : Int} {x4 : Int} {x5 : Int} {wx6 : Option yV} {s0 : Int} (h1 : -2147483648 ≤ s0 ∧ s0 < 2147483648) (kt : s0 = 0 → XW kX12_has d (some .boolean) (wQi Q) 96 [some (.inr (.inr 92)), some (.inl x1), some (.inl x2), some (.inl x3), some (.inl x4), some (.inl x5), some (.inl s0)] [.inl x4, .inl x3, .inl 64, .inr (.inr 92)] M) (kf : s0 ≠ 0 → XW kX12_has d (some .boolean) (wQi Q) 82 [some (.inr (.inr 92)), some (.inl x1), some (.inl x2), some (.inl x3), some (.inl x4), some (.inl x5), some (.inl s0)] [.inl x4, .inl x3, .inl 64, .inr (.inr 92)] M) : XW kX12_has d (some .boolean) (wQi Q) 69 [some (.inr (.inr 92)), some (.inl x1), some (.inl x2), some (.inl x3), some (.inl x4), some (.inl x5), wx6] [.inl s0] M := by
  refine x_istore rfl (Nat.le_of_ble_eq_true rfl) rfl ?_
  refine x_aload_n rfl rfl ?_
  refine x_bipush 64 rfl (by decide) ?_
  refine x_iload_n rfl rfl ?_
  refine x_iload rfl rfl ?_
  refine x_iload rfl rfl ?_
  exact x_ifeq rfl h1 kt kf
theorem uX12_has_82 {d : Nat} {Q : Int → yM → Prop} {M : yM} {x1 : Int} {x2 : Int} {x3 : Int} {x4 : Int} {x5 : Int} {x6 : Int} {s0 : Int} {s1 : Int} {s2 : Int} (kt : (yand (yshr x1 x2) 1) ≠ 1 → XW kX12_has d (some .boolean) (wQi Q) 96 [some (.inr (.inr 92)), some (.inl x1), some (.inl x2), some (.inl x3), some (.inl x4), some (.inl x5), some (.inl x6)] [.inl s0, .inl s1, .inl s2, .inr (.inr 92)] M) (kf : (yand (yshr x1 x2) 1) = 1 → XW kX12_has d (some .boolean) (wQi Q) 91 [some (.inr (.inr 92)), some (.inl x1), some (.inl x2), some (.inl x3), some (.inl x4), some (.inl x5), some (.inl x6)] [.inl s0, .inl s1, .inl s2, .inr (.inr 92)] M) : XW kX12_has d (some .boolean) (wQi Q) 82 [some (.inr (.inr 92)), some (.inl x1), some (.inl x2), some (.inl x3), some (.inl x4), some (.inl x5), some (.inl x6)] [.inl s0, .inl s1, .inl s2, .inr (.inr 92)] M := by
  refine x_iload_n rfl rfl ?_
  refine x_iload_n rfl rfl ?_
  refine x_ishr rfl ?_
  refine x_iconst 1 rfl (by decide) ?_
  refine x_iand rfl ?_
  refine x_iconst 1 rfl (by decide) ?_
  exact x_icmpne rfl (rng_yand _ _) (by decide) kt kf
theorem uX12_has_91 {d : Nat} {Q : Int → yM → Prop} {M : yM} {x1 : Int} {x2 : Int} {x3 : Int} {x4 : Int} {x5 : Int} {x6 : Int} {s0 : Int} {s1 : Int} {s2 : Int} (k : XW kX12_has d (some .boolean) (wQi Q) 100 [some (.inr (.inr 92)), some (.inl x1), some (.inl x2), some (.inl x3), some (.inl x4), some (.inl x5), some (.inl x6)] [.inl x5, .inl s0, .inl s1, .inl s2, .inr (.inr 92)] M) : XW kX12_has d (some .boolean) (wQi Q) 91 [some (.inr (.inr 92)), some (.inl x1), some (.inl x2), some (.inl x3), some (.inl x4), some (.inl x5), some (.inl x6)] [.inl s0, .inl s1, .inl s2, .inr (.inr 92)] M := by
  refine x_iload rfl rfl ?_
  exact x_goto rfl k
theorem uX12_has_96 {d : Nat} {Q : Int → yM → Prop} {M : yM} {x1 : Int} {x2 : Int} {x3 : Int} {x4 : Int} {x5 : Int} {x6 : Int} {s0 : Int} {s1 : Int} {s2 : Int} (k : XCi d 121 [.inr (.inr 92)] M (fun v M' => XW kX12_has (d + 1) (some .boolean) (wQi Q) 100 [some (.inr (.inr 92)), some (.inl x1), some (.inl x2), some (.inl x3), some (.inl x4), some (.inl x5), some (.inl x6)] [.inl v, .inl s0, .inl s1, .inl s2, .inr (.inr 92)] M')) : XW kX12_has (d + 1) (some .boolean) (wQi Q) 96 [some (.inr (.inr 92)), some (.inl x1), some (.inl x2), some (.inl x3), some (.inl x4), some (.inl x5), some (.inl x6)] [.inl s0, .inl s1, .inl s2, .inr (.inr 92)] M := by
  refine x_aload_n rfl rfl ?_
  exact x_calli (args := [.inr (.inr 92)]) rfl rfl rfl k
theorem uX12_has_100 {d : Nat} {Q : Int → yM → Prop} {M : yM} {x1 : Int} {x2 : Int} {x3 : Int} {x4 : Int} {x5 : Int} {x6 : Int} {s0 : Int} {s1 : Int} {s2 : Int} {s3 : Int} (k : XCv d 144 [.inr (.inr 92), .inl s3, .inl s2, .inl s1, .inl s0] M (fun M' => XW kX12_has (d + 1) (some .boolean) (wQi Q) 103 [some (.inr (.inr 92)), some (.inl x1), some (.inl x2), some (.inl x3), some (.inl x4), some (.inl x5), some (.inl x6)] [] M')) : XW kX12_has (d + 1) (some .boolean) (wQi Q) 100 [some (.inr (.inr 92)), some (.inl x1), some (.inl x2), some (.inl x3), some (.inl x4), some (.inl x5), some (.inl x6)] [.inl s0, .inl s1, .inl s2, .inl s3, .inr (.inr 92)] M := by
  exact x_callv (args := [.inr (.inr 92), .inl s3, .inl s2, .inl s1, .inl s0]) rfl rfl rfl k
theorem uX12_has_103 {d : Nat} {Q : Int → yM → Prop} {M : yM} {x1 : Int} {x2 : Int} {x3 : Int} {x4 : Int} {x5 : Int} {x6 : Int} (h1 : -2147483648 ≤ x6 ∧ x6 < 2147483648) (kt : x6 = 0 → XW kX12_has d (some .boolean) (wQi Q) 113 [some (.inr (.inr 92)), some (.inl x1), some (.inl x2), some (.inl x3), some (.inl x4), some (.inl x5), some (.inl x6)] [.inl x2] M) (kf : x6 ≠ 0 → XW kX12_has d (some .boolean) (wQi Q) 109 [some (.inr (.inr 92)), some (.inl x1), some (.inl x2), some (.inl x3), some (.inl x4), some (.inl x5), some (.inl x6)] [.inl x2] M) : XW kX12_has d (some .boolean) (wQi Q) 103 [some (.inr (.inr 92)), some (.inl x1), some (.inl x2), some (.inl x3), some (.inl x4), some (.inl x5), some (.inl x6)] [] M := by
  refine x_iload_n rfl rfl ?_
  refine x_iload rfl rfl ?_
  exact x_ifeq rfl h1 kt kf
theorem uX12_has_109 {d : Nat} {Q : Int → yM → Prop} {M : yM} {x1 : Int} {x2 : Int} {x3 : Int} {x4 : Int} {x5 : Int} {x6 : Int} {s0 : Int} (k : XW kX12_has d (some .boolean) (wQi Q) 114 [some (.inr (.inr 92)), some (.inl x1), some (.inl x2), some (.inl x3), some (.inl x4), some (.inl x5), some (.inl x6)] [.inl 1, .inl s0] M) : XW kX12_has d (some .boolean) (wQi Q) 109 [some (.inr (.inr 92)), some (.inl x1), some (.inl x2), some (.inl x3), some (.inl x4), some (.inl x5), some (.inl x6)] [.inl s0] M := by
  refine x_iconst 1 rfl (by decide) ?_
  exact x_goto rfl k
theorem uX12_has_113 {d : Nat} {Q : Int → yM → Prop} {M : yM} {x1 : Int} {x2 : Int} {x3 : Int} {x4 : Int} {x5 : Int} {x6 : Int} {s0 : Int} (k : XW kX12_has d (some .boolean) (wQi Q) 114 [some (.inr (.inr 92)), some (.inl x1), some (.inl x2), some (.inl x3), some (.inl x4), some (.inl x5), some (.inl x6)] [.inl 0, .inl s0] M) : XW kX12_has d (some .boolean) (wQi Q) 113 [some (.inr (.inr 92)), some (.inl x1), some (.inl x2), some (.inl x3), some (.inl x4), some (.inl x5), some (.inl x6)] [.inl s0] M := by
  refine x_iconst 0 rfl (by decide) ?_
  exact k
theorem uX12_has_114 {d : Nat} {Q : Int → yM → Prop} {M : yM} {x1 : Int} {x2 : Int} {x3 : Int} {x4 : Int} {x5 : Int} {x6 : Int} {s0 : Int} {s1 : Int} (k : XW kX12_has d (some .boolean) (wQi Q) 32 [some (.inr (.inr 92)), some (.inl x1), some (.inl (s1 + s0)), some (.inl x3), some (.inl (x4 + 1)), some (.inl x5), some (.inl x6)] [] M) : XW kX12_has d (some .boolean) (wQi Q) 114 [some (.inr (.inr 92)), some (.inl x1), some (.inl x2), some (.inl x3), some (.inl x4), some (.inl x5), some (.inl x6)] [.inl s0, .inl s1] M := by
  refine x_iadd rfl ?_
  refine x_istore_n rfl (Nat.le_of_ble_eq_true rfl) rfl ?_
  refine x_iinc 1 rfl (by decide) rfl rfl ?_
  exact x_goto rfl k
theorem uX12_has_122 {d : Nat} {Q : Int → yM → Prop} {M : yM} {x1 : Int} {x2 : Int} {x3 : Int} {x4 : Int} {wx5 : Option yV} {wx6 : Option yV} (k : XW kX12_has d (some .boolean) (wQi Q) 4 [some (.inr (.inr 92)), some (.inl x1), some (.inl x2), some (.inl (x3 + 1)), some (.inl x4), wx5, wx6] [] M) : XW kX12_has d (some .boolean) (wQi Q) 122 [some (.inr (.inr 92)), some (.inl x1), some (.inl x2), some (.inl x3), some (.inl x4), wx5, wx6] [] M := by
  refine x_iinc 1 rfl (by decide) rfl rfl ?_
  exact x_goto rfl k
theorem uX12_has_128 {d : Nat} {Q : Int → yM → Prop} {M : yM} {x1 : Int} {x2 : Int} {x3 : Int} {wx4 : Option yV} {wx5 : Option yV} {wx6 : Option yV} (k : XCv d 154 [.inr (.inr 92), .inl 1] M (fun M' => XW kX12_has (d + 1) (some .boolean) (wQi Q) 133 [some (.inr (.inr 92)), some (.inl x1), some (.inl x2), some (.inl x3), wx4, wx5, wx6] [] M')) : XW kX12_has (d + 1) (some .boolean) (wQi Q) 128 [some (.inr (.inr 92)), some (.inl x1), some (.inl x2), some (.inl x3), wx4, wx5, wx6] [] M := by
  refine x_aload_n rfl rfl ?_
  refine x_iconst 1 rfl (by decide) ?_
  exact x_callv (args := [.inr (.inr 92), .inl 1]) rfl rfl rfl k
theorem uX12_has_133 {d : Nat} {Q : Int → yM → Prop} {M : yM} {x1 : Int} {x2 : Int} {x3 : Int} {wx4 : Option yV} {wx5 : Option yV} {wx6 : Option yV} (kt : (ld M 92 17) ≤ 0 → XW kX12_has d (some .boolean) (wQi Q) 144 [some (.inr (.inr 92)), some (.inl x1), some (.inl x2), some (.inl x3), wx4, wx5, wx6] [] M) (kf : (ld M 92 17) > 0 → XW kX12_has d (some .boolean) (wQi Q) 140 [some (.inr (.inr 92)), some (.inl x1), some (.inl x2), some (.inl x3), wx4, wx5, wx6] [] M) : XW kX12_has d (some .boolean) (wQi Q) 133 [some (.inr (.inr 92)), some (.inl x1), some (.inl x2), some (.inl x3), wx4, wx5, wx6] [] M := by
  refine x_aload_n rfl rfl ?_
  refine x_getI rfl sh92 rfl ?_
  exact x_ifle rfl (rng_ld _ _ _) kt kf
theorem uX12_has_140 {d : Nat} {Q : Int → yM → Prop} {M : yM} {x1 : Int} {x2 : Int} {x3 : Int} {wx4 : Option yV} {wx5 : Option yV} {wx6 : Option yV} (k : XW kX12_has d (some .boolean) (wQi Q) 145 [some (.inr (.inr 92)), some (.inl x1), some (.inl x2), some (.inl x3), wx4, wx5, wx6] [.inl 1] M) : XW kX12_has d (some .boolean) (wQi Q) 140 [some (.inr (.inr 92)), some (.inl x1), some (.inl x2), some (.inl x3), wx4, wx5, wx6] [] M := by
  refine x_iconst 1 rfl (by decide) ?_
  exact x_goto rfl k
theorem uX12_has_144 {d : Nat} {Q : Int → yM → Prop} {M : yM} {x1 : Int} {x2 : Int} {x3 : Int} {wx4 : Option yV} {wx5 : Option yV} {wx6 : Option yV} (k : XW kX12_has d (some .boolean) (wQi Q) 145 [some (.inr (.inr 92)), some (.inl x1), some (.inl x2), some (.inl x3), wx4, wx5, wx6] [.inl 0] M) : XW kX12_has d (some .boolean) (wQi Q) 144 [some (.inr (.inr 92)), some (.inl x1), some (.inl x2), some (.inl x3), wx4, wx5, wx6] [] M := by
  refine x_iconst 0 rfl (by decide) ?_
  exact k
theorem uX12_has_145 {d : Nat} {Q : Int → yM → Prop} {M : yM} {x1 : Int} {x2 : Int} {x3 : Int} {wx4 : Option yV} {wx5 : Option yV} {wx6 : Option yV} {s0 : Int} (h1 : s0 = 0 ∨ s0 = 1) (k : Q s0 M) : XW kX12_has d (some .boolean) (wQi Q) 145 [some (.inr (.inr 92)), some (.inl x1), some (.inl x2), some (.inl x3), wx4, wx5, wx6] [.inl s0] M := by
  exact x_zreturn rfl h1 k
theorem eX12_reason {d : Nat} {Q : Int → yM → Prop} {M : yM} {x1 : Int}  (h : XW kX12_reason d (some .int) (wQi Q) 0 [some (.inr (.inr 92)), some (.inl x1), none, none, none] [] M) : XCi d 161 [.inr (.inr 92), .inl x1] M Q :=
  XC.ofW (Mm := (yX12_reason, cX12_reason, 5, (some .int), 13, kX12_reason)) rfl (rcv_ok sh92) rfl rfl h
theorem uX12_reason_0 {d : Nat} {Q : Int → yM → Prop} {M : yM} {x1 : Int} (k : ∀ M', M' = (put M 92 0 0) → XW kX12_reason d (some .int) (wQi Q) 5 [some (.inr (.inr 92)), some (.inl x1), none, none, none] [] M') : XW kX12_reason d (some .int) (wQi Q) 0 [some (.inr (.inr 92)), some (.inl x1), none, none, none] [] M := by
  refine x_aload_n rfl rfl ?_
  refine x_iconst 0 rfl (by decide) ?_
  refine x_putI rfl rfl sh92 rfl ?_
  exact k _ rfl
theorem uX12_reason_5 {d : Nat} {Q : Int → yM → Prop} {M : yM} {x1 : Int} (k : XCi d 120 [.inl x1, .inl 0, .inl 1] M (fun v M' => XW kX12_reason (d + 1) (some .int) (wQi Q) 11 [some (.inr (.inr 92)), some (.inl x1), none, none, none] [.inl v] M')) : XW kX12_reason (d + 1) (some .int) (wQi Q) 5 [some (.inr (.inr 92)), some (.inl x1), none, none, none] [] M := by
  refine x_iload_n rfl rfl ?_
  refine x_iconst 0 rfl (by decide) ?_
  refine x_iconst 1 rfl (by decide) ?_
  exact x_calli (args := [.inl x1, .inl 0, .inl 1]) rfl rfl rfl k
theorem uX12_reason_11 {d : Nat} {Q : Int → yM → Prop} {M : yM} {x1 : Int} {s0 : Int} (h1 : -2147483648 ≤ s0 ∧ s0 < 2147483648) (kt : s0 ≠ 0 → XW kX12_reason d (some .int) (wQi Q) 16 [some (.inr (.inr 92)), some (.inl x1), none, none, none] [] M) (kf : s0 = 0 → XW kX12_reason d (some .int) (wQi Q) 14 [some (.inr (.inr 92)), some (.inl x1), none, none, none] [] M) : XW kX12_reason d (some .int) (wQi Q) 11 [some (.inr (.inr 92)), some (.inl x1), none, none, none] [.inl s0] M := by
  exact x_ifne rfl h1 kt kf
theorem uX12_reason_14 {d : Nat} {Q : Int → yM → Prop} {M : yM} {x1 : Int} (k : Q (-1) M) : XW kX12_reason d (some .int) (wQi Q) 14 [some (.inr (.inr 92)), some (.inl x1), none, none, none] [] M := by
  refine x_iconst (-1) rfl (by decide) ?_
  exact x_ireturn rfl k
theorem uX12_reason_16 {d : Nat} {Q : Int → yM → Prop} {M : yM} {x1 : Int} (k : XW kX12_reason d (some .int) (wQi Q) 20 [some (.inr (.inr 92)), some (.inl x1), some (.inl 0), some (.inl 0), none] [] M) : XW kX12_reason d (some .int) (wQi Q) 16 [some (.inr (.inr 92)), some (.inl x1), none, none, none] [] M := by
  refine x_iconst 0 rfl (by decide) ?_
  refine x_istore_n rfl (Nat.le_of_ble_eq_true rfl) rfl ?_
  refine x_iconst 0 rfl (by decide) ?_
  refine x_istore_n rfl (Nat.le_of_ble_eq_true rfl) rfl ?_
  exact k
theorem uX12_reason_20 {d : Nat} {Q : Int → yM → Prop} {M : yM} {x1 : Int} {x2 : Int} {x3 : Int} {wx4 : Option yV} (h1 : -2147483648 ≤ x3 ∧ x3 < 2147483648) (kt : x3 ≥ (ld M 92 11) → XW kX12_reason d (some .int) (wQi Q) 81 [some (.inr (.inr 92)), some (.inl x1), some (.inl x2), some (.inl x3), wx4] [] M) (kf : x3 < (ld M 92 11) → XW kX12_reason d (some .int) (wQi Q) 28 [some (.inr (.inr 92)), some (.inl x1), some (.inl x2), some (.inl x3), wx4] [] M) : XW kX12_reason d (some .int) (wQi Q) 20 [some (.inr (.inr 92)), some (.inl x1), some (.inl x2), some (.inl x3), wx4] [] M := by
  refine x_iload_n rfl rfl ?_
  refine x_aload_n rfl rfl ?_
  refine x_getI rfl sh92 rfl ?_
  exact x_icmpge rfl h1 (rng_ld _ _ _) kt kf
theorem uX12_reason_28 {d : Nat} {Q : Int → yM → Prop} {M : yM} {x1 : Int} {x2 : Int} {x3 : Int} {wx4 : Option yV} (k : XW kX12_reason d (some .int) (wQi Q) 33 [some (.inr (.inr 92)), some (.inl x1), some (.inl x2), some (.inl x3), some (.inl (x3 + 1))] [] M) : XW kX12_reason d (some .int) (wQi Q) 28 [some (.inr (.inr 92)), some (.inl x1), some (.inl x2), some (.inl x3), wx4] [] M := by
  refine x_iload_n rfl rfl ?_
  refine x_iconst 1 rfl (by decide) ?_
  refine x_iadd rfl ?_
  refine x_istore rfl (Nat.le_of_ble_eq_true rfl) rfl ?_
  exact k
theorem uX12_reason_33 {d : Nat} {Q : Int → yM → Prop} {M : yM} {x1 : Int} {x2 : Int} {x3 : Int} {x4 : Int} (h1 : -2147483648 ≤ x4 ∧ x4 < 2147483648) (kt : x4 ≥ (ld M 92 11) → XW kX12_reason d (some .int) (wQi Q) 75 [some (.inr (.inr 92)), some (.inl x1), some (.inl x2), some (.inl x3), some (.inl x4)] [] M) (kf : x4 < (ld M 92 11) → XW kX12_reason d (some .int) (wQi Q) 42 [some (.inr (.inr 92)), some (.inl x1), some (.inl x2), some (.inl x3), some (.inl x4)] [] M) : XW kX12_reason d (some .int) (wQi Q) 33 [some (.inr (.inr 92)), some (.inl x1), some (.inl x2), some (.inl x3), some (.inl x4)] [] M := by
  refine x_iload rfl rfl ?_
  refine x_aload_n rfl rfl ?_
  refine x_getI rfl sh92 rfl ?_
  exact x_icmpge rfl h1 (rng_ld _ _ _) kt kf
theorem uX12_reason_42 {d : Nat} {Q : Int → yM → Prop} {M : yM} {x1 : Int} {x2 : Int} {x3 : Int} {x4 : Int} (h1 : 0 ≤ ((8 * x3) + x4) ∧ ((8 * x3) + x4) < 2048) (k : XCi d 121 [.inr (.inr 92)] M (fun v M' => XW kX12_reason (d + 1) (some .int) (wQi Q) 59 [some (.inr (.inr 92)), some (.inl x1), some (.inl x2), some (.inl x3), some (.inl x4)] [.inl v, .inl (ld M 100 ((8 * x3) + x4)), .inl x2] M')) : XW kX12_reason (d + 1) (some .int) (wQi Q) 42 [some (.inr (.inr 92)), some (.inl x1), some (.inl x2), some (.inl x3), some (.inl x4)] [] M := by
  refine x_iload_n rfl rfl ?_
  refine x_aload_n rfl rfl ?_
  refine x_getR rfl sh92 rfl ?_
  refine x_bipush 8 rfl (by decide) ?_
  refine x_iload_n rfl rfl ?_
  refine x_imul rfl ?_
  refine x_iload rfl rfl ?_
  refine x_iadd rfl ?_
  refine x_iaload rfl ⟨sh100, Nat.le_of_ble_eq_true rfl⟩ h1 ?_
  refine x_aload_n rfl rfl ?_
  exact x_calli (args := [.inr (.inr 92)]) rfl rfl rfl k
theorem uX12_reason_59 {d : Nat} {Q : Int → yM → Prop} {M : yM} {x1 : Int} {x2 : Int} {x3 : Int} {x4 : Int} {s0 : Int} {s1 : Int} {s2 : Int} (h1 : -2147483648 ≤ s1 ∧ s1 < 2147483648) (h2 : -2147483648 ≤ s0 ∧ s0 < 2147483648) (kt : s1 = s0 → XW kX12_reason d (some .int) (wQi Q) 66 [some (.inr (.inr 92)), some (.inl x1), some (.inl x2), some (.inl x3), some (.inl x4)] [.inl s2] M) (kf : s1 ≠ s0 → XW kX12_reason d (some .int) (wQi Q) 62 [some (.inr (.inr 92)), some (.inl x1), some (.inl x2), some (.inl x3), some (.inl x4)] [.inl s2] M) : XW kX12_reason d (some .int) (wQi Q) 59 [some (.inr (.inr 92)), some (.inl x1), some (.inl x2), some (.inl x3), some (.inl x4)] [.inl s0, .inl s1, .inl s2] M := by
  exact x_icmpeq rfl h1 h2 kt kf
theorem uX12_reason_62 {d : Nat} {Q : Int → yM → Prop} {M : yM} {x1 : Int} {x2 : Int} {x3 : Int} {x4 : Int} {s0 : Int} (k : XW kX12_reason d (some .int) (wQi Q) 67 [some (.inr (.inr 92)), some (.inl x1), some (.inl x2), some (.inl x3), some (.inl x4)] [.inl 1, .inl s0] M) : XW kX12_reason d (some .int) (wQi Q) 62 [some (.inr (.inr 92)), some (.inl x1), some (.inl x2), some (.inl x3), some (.inl x4)] [.inl s0] M := by
  refine x_iconst 1 rfl (by decide) ?_
  exact x_goto rfl k
theorem uX12_reason_66 {d : Nat} {Q : Int → yM → Prop} {M : yM} {x1 : Int} {x2 : Int} {x3 : Int} {x4 : Int} {s0 : Int} (k : XW kX12_reason d (some .int) (wQi Q) 67 [some (.inr (.inr 92)), some (.inl x1), some (.inl x2), some (.inl x3), some (.inl x4)] [.inl 0, .inl s0] M) : XW kX12_reason d (some .int) (wQi Q) 66 [some (.inr (.inr 92)), some (.inl x1), some (.inl x2), some (.inl x3), some (.inl x4)] [.inl s0] M := by
  refine x_iconst 0 rfl (by decide) ?_
  exact k
theorem uX12_reason_67 {d : Nat} {Q : Int → yM → Prop} {M : yM} {x1 : Int} {x2 : Int} {x3 : Int} {x4 : Int} {s0 : Int} {s1 : Int} (k : XW kX12_reason d (some .int) (wQi Q) 33 [some (.inr (.inr 92)), some (.inl x1), some (.inl (s1 + s0)), some (.inl x3), some (.inl (x4 + 1))] [] M) : XW kX12_reason d (some .int) (wQi Q) 67 [some (.inr (.inr 92)), some (.inl x1), some (.inl x2), some (.inl x3), some (.inl x4)] [.inl s0, .inl s1] M := by
  refine x_iadd rfl ?_
  refine x_istore_n rfl (Nat.le_of_ble_eq_true rfl) rfl ?_
  refine x_iinc 1 rfl (by decide) rfl rfl ?_
  exact x_goto rfl k
theorem uX12_reason_75 {d : Nat} {Q : Int → yM → Prop} {M : yM} {x1 : Int} {x2 : Int} {x3 : Int} {x4 : Int} (k : XW kX12_reason d (some .int) (wQi Q) 20 [some (.inr (.inr 92)), some (.inl x1), some (.inl x2), some (.inl (x3 + 1)), some (.inl x4)] [] M) : XW kX12_reason d (some .int) (wQi Q) 75 [some (.inr (.inr 92)), some (.inl x1), some (.inl x2), some (.inl x3), some (.inl x4)] [] M := by
  refine x_iinc 1 rfl (by decide) rfl rfl ?_
  exact x_goto rfl k
theorem uX12_reason_81 {d : Nat} {Q : Int → yM → Prop} {M : yM} {x1 : Int} {x2 : Int} {x3 : Int} {wx4 : Option yV} (h1 : -2147483648 ≤ x2 ∧ x2 < 2147483648) (kt : x2 ≤ 10 → XW kX12_reason d (some .int) (wQi Q) 90 [some (.inr (.inr 92)), some (.inl x1), some (.inl x2), some (.inl x3), wx4] [] M) (kf : x2 > 10 → XW kX12_reason d (some .int) (wQi Q) 87 [some (.inr (.inr 92)), some (.inl x1), some (.inl x2), some (.inl x3), wx4] [] M) : XW kX12_reason d (some .int) (wQi Q) 81 [some (.inr (.inr 92)), some (.inl x1), some (.inl x2), some (.inl x3), wx4] [] M := by
  refine x_iload_n rfl rfl ?_
  refine x_bipush 10 rfl (by decide) ?_
  exact x_icmple rfl h1 (by decide) kt kf
theorem uX12_reason_87 {d : Nat} {Q : Int → yM → Prop} {M : yM} {x1 : Int} {x2 : Int} {x3 : Int} {wx4 : Option yV} (k : Q (-2) M) : XW kX12_reason d (some .int) (wQi Q) 87 [some (.inr (.inr 92)), some (.inl x1), some (.inl x2), some (.inl x3), wx4] [] M := by
  refine x_bipush (-2) rfl (by decide) ?_
  exact x_ireturn rfl k
theorem uX12_reason_90 {d : Nat} {Q : Int → yM → Prop} {M : yM} {x1 : Int} {x2 : Int} {x3 : Int} {wx4 : Option yV} (k : XCi d 160 [.inr (.inr 92), .inl ((yshl 1 x2) - 1)] M (fun v M' => XW kX12_reason (d + 1) (some .int) (wQi Q) 101 [some (.inr (.inr 92)), some (.inl x1), some (.inl x2), some (.inl ((yshl 1 x2) - 1)), wx4] [.inl v] M')) : XW kX12_reason (d + 1) (some .int) (wQi Q) 90 [some (.inr (.inr 92)), some (.inl x1), some (.inl x2), some (.inl x3), wx4] [] M := by
  refine x_iconst 1 rfl (by decide) ?_
  refine x_iload_n rfl rfl ?_
  refine x_ishl rfl ?_
  refine x_iconst 1 rfl (by decide) ?_
  refine x_isub rfl ?_
  refine x_istore_n rfl (Nat.le_of_ble_eq_true rfl) rfl ?_
  refine x_aload_n rfl rfl ?_
  refine x_iload_n rfl rfl ?_
  exact x_calli (args := [.inr (.inr 92), .inl ((yshl 1 x2) - 1)]) rfl rfl rfl k
theorem uX12_reason_101 {d : Nat} {Q : Int → yM → Prop} {M : yM} {x1 : Int} {x2 : Int} {x3 : Int} {wx4 : Option yV} {s0 : Int} (h1 : -2147483648 ≤ s0 ∧ s0 < 2147483648) (kt : s0 = 0 → XW kX12_reason d (some .int) (wQi Q) 107 [some (.inr (.inr 92)), some (.inl x1), some (.inl x2), some (.inl x3), wx4] [] M) (kf : s0 ≠ 0 → XW kX12_reason d (some .int) (wQi Q) 104 [some (.inr (.inr 92)), some (.inl x1), some (.inl x2), some (.inl x3), wx4] [] M) : XW kX12_reason d (some .int) (wQi Q) 101 [some (.inr (.inr 92)), some (.inl x1), some (.inl x2), some (.inl x3), wx4] [.inl s0] M := by
  exact x_ifeq rfl h1 kt kf
theorem uX12_reason_104 {d : Nat} {Q : Int → yM → Prop} {M : yM} {x1 : Int} {x2 : Int} {x3 : Int} {wx4 : Option yV} (k : Q (-9) M) : XW kX12_reason d (some .int) (wQi Q) 104 [some (.inr (.inr 92)), some (.inl x1), some (.inl x2), some (.inl x3), wx4] [] M := by
  refine x_bipush (-9) rfl (by decide) ?_
  exact x_ireturn rfl k
theorem uX12_reason_107 {d : Nat} {Q : Int → yM → Prop} {M : yM} {x1 : Int} {x2 : Int} {x3 : Int} {wx4 : Option yV} (k : XW kX12_reason d (some .int) (wQi Q) 110 [some (.inr (.inr 92)), some (.inl x1), some (.inl x2), some (.inl x3), some (.inl x3)] [] M) : XW kX12_reason d (some .int) (wQi Q) 107 [some (.inr (.inr 92)), some (.inl x1), some (.inl x2), some (.inl x3), wx4] [] M := by
  refine x_iload_n rfl rfl ?_
  refine x_istore rfl (Nat.le_of_ble_eq_true rfl) rfl ?_
  exact k
theorem uX12_reason_110 {d : Nat} {Q : Int → yM → Prop} {M : yM} {x1 : Int} {x2 : Int} {x3 : Int} {x4 : Int} (h1 : -2147483648 ≤ x4 ∧ x4 < 2147483648) (kt : x4 < 0 → XW kX12_reason d (some .int) (wQi Q) 149 [some (.inr (.inr 92)), some (.inl x1), some (.inl x2), some (.inl x3), some (.inl x4)] [] M) (kf : x4 ≥ 0 → XW kX12_reason d (some .int) (wQi Q) 115 [some (.inr (.inr 92)), some (.inl x1), some (.inl x2), some (.inl x3), some (.inl x4)] [] M) : XW kX12_reason d (some .int) (wQi Q) 110 [some (.inr (.inr 92)), some (.inl x1), some (.inl x2), some (.inl x3), some (.inl x4)] [] M := by
  refine x_iload rfl rfl ?_
  exact x_iflt rfl h1 kt kf
theorem uX12_reason_115 {d : Nat} {Q : Int → yM → Prop} {M : yM} {x1 : Int} {x2 : Int} {x3 : Int} {x4 : Int} (k : XCi d 159 [.inl x4] M (fun v M' => XW kX12_reason (d + 1) (some .int) (wQi Q) 120 [some (.inr (.inr 92)), some (.inl x1), some (.inl x2), some (.inl x3), some (.inl x4)] [.inl v] M')) : XW kX12_reason (d + 1) (some .int) (wQi Q) 115 [some (.inr (.inr 92)), some (.inl x1), some (.inl x2), some (.inl x3), some (.inl x4)] [] M := by
  refine x_iload rfl rfl ?_
  exact x_calli (args := [.inl x4]) rfl rfl rfl k
theorem uX12_reason_120 {d : Nat} {Q : Int → yM → Prop} {M : yM} {x1 : Int} {x2 : Int} {x3 : Int} {x4 : Int} {s0 : Int} (k : XCi d 159 [.inl x3] M (fun v M' => XW kX12_reason (d + 1) (some .int) (wQi Q) 124 [some (.inr (.inr 92)), some (.inl x1), some (.inl x2), some (.inl x3), some (.inl x4)] [.inl v, .inl s0] M')) : XW kX12_reason (d + 1) (some .int) (wQi Q) 120 [some (.inr (.inr 92)), some (.inl x1), some (.inl x2), some (.inl x3), some (.inl x4)] [.inl s0] M := by
  refine x_iload_n rfl rfl ?_
  exact x_calli (args := [.inl x3]) rfl rfl rfl k
theorem uX12_reason_124 {d : Nat} {Q : Int → yM → Prop} {M : yM} {x1 : Int} {x2 : Int} {x3 : Int} {x4 : Int} {s0 : Int} {s1 : Int} (h1 : -2147483648 ≤ s1 ∧ s1 < 2147483648) (h2 : -2147483648 ≤ s0 ∧ s0 < 2147483648) (kt : s1 > s0 → XW kX12_reason d (some .int) (wQi Q) 141 [some (.inr (.inr 92)), some (.inl x1), some (.inl x2), some (.inl x3), some (.inl x4)] [] M) (kf : s1 ≤ s0 → XW kX12_reason d (some .int) (wQi Q) 127 [some (.inr (.inr 92)), some (.inl x1), some (.inl x2), some (.inl x3), some (.inl x4)] [] M) : XW kX12_reason d (some .int) (wQi Q) 124 [some (.inr (.inr 92)), some (.inl x1), some (.inl x2), some (.inl x3), some (.inl x4)] [.inl s0, .inl s1] M := by
  exact x_icmpgt rfl h1 h2 kt kf
theorem uX12_reason_127 {d : Nat} {Q : Int → yM → Prop} {M : yM} {x1 : Int} {x2 : Int} {x3 : Int} {x4 : Int} (k : XCi d 160 [.inr (.inr 92), .inl x4] M (fun v M' => XW kX12_reason (d + 1) (some .int) (wQi Q) 133 [some (.inr (.inr 92)), some (.inl x1), some (.inl x2), some (.inl x3), some (.inl x4)] [.inl v] M')) : XW kX12_reason (d + 1) (some .int) (wQi Q) 127 [some (.inr (.inr 92)), some (.inl x1), some (.inl x2), some (.inl x3), some (.inl x4)] [] M := by
  refine x_aload_n rfl rfl ?_
  refine x_iload rfl rfl ?_
  exact x_calli (args := [.inr (.inr 92), .inl x4]) rfl rfl rfl k
theorem uX12_reason_133 {d : Nat} {Q : Int → yM → Prop} {M : yM} {x1 : Int} {x2 : Int} {x3 : Int} {x4 : Int} {s0 : Int} (h1 : -2147483648 ≤ s0 ∧ s0 < 2147483648) (kt : s0 ≠ 0 → XW kX12_reason d (some .int) (wQi Q) 141 [some (.inr (.inr 92)), some (.inl x1), some (.inl x2), some (.inl x3), some (.inl x4)] [] M) (kf : s0 = 0 → XW kX12_reason d (some .int) (wQi Q) 136 [some (.inr (.inr 92)), some (.inl x1), some (.inl x2), some (.inl x3), some (.inl x4)] [] M) : XW kX12_reason d (some .int) (wQi Q) 133 [some (.inr (.inr 92)), some (.inl x1), some (.inl x2), some (.inl x3), some (.inl x4)] [.inl s0] M := by
  exact x_ifne rfl h1 kt kf
theorem uX12_reason_136 {d : Nat} {Q : Int → yM → Prop} {M : yM} {x1 : Int} {x2 : Int} {x3 : Int} {x4 : Int} (k : XW kX12_reason d (some .int) (wQi Q) 142 [some (.inr (.inr 92)), some (.inl x1), some (.inl x2), some (.inl x3), some (.inl x4)] [.inl x4] M) : XW kX12_reason d (some .int) (wQi Q) 136 [some (.inr (.inr 92)), some (.inl x1), some (.inl x2), some (.inl x3), some (.inl x4)] [] M := by
  refine x_iload rfl rfl ?_
  exact x_goto rfl k
theorem uX12_reason_141 {d : Nat} {Q : Int → yM → Prop} {M : yM} {x1 : Int} {x2 : Int} {x3 : Int} {x4 : Int} (k : XW kX12_reason d (some .int) (wQi Q) 142 [some (.inr (.inr 92)), some (.inl x1), some (.inl x2), some (.inl x3), some (.inl x4)] [.inl x3] M) : XW kX12_reason d (some .int) (wQi Q) 141 [some (.inr (.inr 92)), some (.inl x1), some (.inl x2), some (.inl x3), some (.inl x4)] [] M := by
  refine x_iload_n rfl rfl ?_
  exact k
theorem uX12_reason_142 {d : Nat} {Q : Int → yM → Prop} {M : yM} {x1 : Int} {x2 : Int} {x3 : Int} {x4 : Int} {s0 : Int} (k : XW kX12_reason d (some .int) (wQi Q) 110 [some (.inr (.inr 92)), some (.inl x1), some (.inl x2), some (.inl s0), some (.inl (x4 + (-1)))] [] M) : XW kX12_reason d (some .int) (wQi Q) 142 [some (.inr (.inr 92)), some (.inl x1), some (.inl x2), some (.inl x3), some (.inl x4)] [.inl s0] M := by
  refine x_istore_n rfl (Nat.le_of_ble_eq_true rfl) rfl ?_
  refine x_iinc (-1) rfl (by decide) rfl rfl ?_
  exact x_goto rfl k
theorem uX12_reason_149 {d : Nat} {Q : Int → yM → Prop} {M : yM} {x1 : Int} {x2 : Int} {x3 : Int} {x4 : Int} (h1 : -2147483648 ≤ x1 ∧ x1 < 2147483648) (kt : x1 ≠ 0 → XW kX12_reason d (some .int) (wQi Q) 160 [some (.inr (.inr 92)), some (.inl x1), some (.inl x2), some (.inl x3), some (.inl x4)] [] M) (kf : x1 = 0 → XW kX12_reason d (some .int) (wQi Q) 153 [some (.inr (.inr 92)), some (.inl x1), some (.inl x2), some (.inl x3), some (.inl x4)] [] M) : XW kX12_reason d (some .int) (wQi Q) 149 [some (.inr (.inr 92)), some (.inl x1), some (.inl x2), some (.inl x3), some (.inl x4)] [] M := by
  refine x_iload_n rfl rfl ?_
  exact x_ifne rfl h1 kt kf
theorem uX12_reason_153 {d : Nat} {Q : Int → yM → Prop} {M : yM} {x1 : Int} {x2 : Int} {x3 : Int} {x4 : Int} (k : XCi d 159 [.inl x3] M (fun v M' => XW kX12_reason (d + 1) (some .int) (wQi Q) 157 [some (.inr (.inr 92)), some (.inl x1), some (.inl x2), some (.inl x3), some (.inl x4)] [.inl v] M')) : XW kX12_reason (d + 1) (some .int) (wQi Q) 153 [some (.inr (.inr 92)), some (.inl x1), some (.inl x2), some (.inl x3), some (.inl x4)] [] M := by
  refine x_iload_n rfl rfl ?_
  exact x_calli (args := [.inl x3]) rfl rfl rfl k
theorem uX12_reason_157 {d : Nat} {Q : Int → yM → Prop} {M : yM} {x1 : Int} {x2 : Int} {x3 : Int} {x4 : Int} {s0 : Int} (k : XW kX12_reason d (some .int) (wQi Q) 161 [some (.inr (.inr 92)), some (.inl x1), some (.inl x2), some (.inl x3), some (.inl x4)] [.inl s0] M) : XW kX12_reason d (some .int) (wQi Q) 157 [some (.inr (.inr 92)), some (.inl x1), some (.inl x2), some (.inl x3), some (.inl x4)] [.inl s0] M := by
  exact x_goto rfl k
theorem uX12_reason_160 {d : Nat} {Q : Int → yM → Prop} {M : yM} {x1 : Int} {x2 : Int} {x3 : Int} {x4 : Int} (k : XW kX12_reason d (some .int) (wQi Q) 161 [some (.inr (.inr 92)), some (.inl x1), some (.inl x2), some (.inl x3), some (.inl x4)] [.inl x3] M) : XW kX12_reason d (some .int) (wQi Q) 160 [some (.inr (.inr 92)), some (.inl x1), some (.inl x2), some (.inl x3), some (.inl x4)] [] M := by
  refine x_iload_n rfl rfl ?_
  exact k
theorem uX12_reason_161 {d : Nat} {Q : Int → yM → Prop} {M : yM} {x1 : Int} {x2 : Int} {x3 : Int} {x4 : Int} {s0 : Int} (k : Q s0 M) : XW kX12_reason d (some .int) (wQi Q) 161 [some (.inr (.inr 92)), some (.inl x1), some (.inl x2), some (.inl x3), some (.inl x4)] [.inl s0] M := by
  exact x_ireturn rfl k
theorem eX12_type {d : Nat} {Q : Int → yM → Prop} {M : yM} {x1 : Int} {x3 : Int}  (h : XW kX12_type d (some .int) (wQi Q) 0 [some (.inr (.inr 92)), some (.inr (.inl x1)), none, some (.inl x3), none] [] M) : XCi d 162 [.inr (.inr 92), .inr (.inl x1), .inl x3] M Q :=
  XC.ofW (Mm := (yX12_type, cX12_type, 5, (some .int), 13, kX12_type)) rfl (rcv_ok sh92) rfl rfl h
theorem uX12_type_0 {d : Nat} {Q : Int → yM → Prop} {M : yM} {x1 : Int} {x3 : Int} (k : ∀ M', M' = (put M 92 0 0) → XW kX12_type d (some .int) (wQi Q) 5 [some (.inr (.inr 92)), some (.inr (.inl x1)), none, some (.inl x3), none] [] M') : XW kX12_type d (some .int) (wQi Q) 0 [some (.inr (.inr 92)), some (.inr (.inl x1)), none, some (.inl x3), none] [] M := by
  refine x_aload_n rfl rfl ?_
  refine x_iconst 0 rfl (by decide) ?_
  refine x_putI rfl rfl sh92 rfl ?_
  exact k _ rfl
theorem uX12_type_5 {d : Nat} {Q : Int → yM → Prop} {M : yM} {x1 : Int} {x3 : Int} (k : XCi d 120 [.inl x3, .inl 1, .inl 8] M (fun v M' => XW kX12_type (d + 1) (some .int) (wQi Q) 12 [some (.inr (.inr 92)), some (.inr (.inl x1)), none, some (.inl x3), none] [.inl v] M')) : XW kX12_type (d + 1) (some .int) (wQi Q) 5 [some (.inr (.inr 92)), some (.inr (.inl x1)), none, some (.inl x3), none] [] M := by
  refine x_iload_n rfl rfl ?_
  refine x_iconst 1 rfl (by decide) ?_
  refine x_bipush 8 rfl (by decide) ?_
  exact x_calli (args := [.inl x3, .inl 1, .inl 8]) rfl rfl rfl k
theorem uX12_type_12 {d : Nat} {Q : Int → yM → Prop} {M : yM} {x1 : Int} {x3 : Int} {s0 : Int} (h1 : -2147483648 ≤ s0 ∧ s0 < 2147483648) (kt : s0 ≠ 0 → XW kX12_type d (some .int) (wQi Q) 17 [some (.inr (.inr 92)), some (.inr (.inl x1)), none, some (.inl x3), none] [] M) (kf : s0 = 0 → XW kX12_type d (some .int) (wQi Q) 15 [some (.inr (.inr 92)), some (.inr (.inl x1)), none, some (.inl x3), none] [] M) : XW kX12_type d (some .int) (wQi Q) 12 [some (.inr (.inr 92)), some (.inr (.inl x1)), none, some (.inl x3), none] [.inl s0] M := by
  exact x_ifne rfl h1 kt kf
theorem uX12_type_15 {d : Nat} {Q : Int → yM → Prop} {M : yM} {x1 : Int} {x3 : Int} (k : Q (-1) M) : XW kX12_type d (some .int) (wQi Q) 15 [some (.inr (.inr 92)), some (.inr (.inl x1)), none, some (.inl x3), none] [] M := by
  refine x_iconst (-1) rfl (by decide) ?_
  exact x_ireturn rfl k
theorem uX12_type_17 {d : Nat} {Q : Int → yM → Prop} {M : yM} {x1 : Int} {x3 : Int} (h1 : -2147483648 ≤ ((ld M 92 21) + x3) ∧ ((ld M 92 21) + x3) < 2147483648) (kt : ((ld M 92 21) + x3) ≤ 60 → XW kX12_type d (some .int) (wQi Q) 31 [some (.inr (.inr 92)), some (.inr (.inl x1)), none, some (.inl x3), none] [] M) (kf : ((ld M 92 21) + x3) > 60 → XW kX12_type d (some .int) (wQi Q) 28 [some (.inr (.inr 92)), some (.inr (.inl x1)), none, some (.inl x3), none] [] M) : XW kX12_type d (some .int) (wQi Q) 17 [some (.inr (.inr 92)), some (.inr (.inl x1)), none, some (.inl x3), none] [] M := by
  refine x_aload_n rfl rfl ?_
  refine x_getI rfl sh92 rfl ?_
  refine x_iload_n rfl rfl ?_
  refine x_iadd rfl ?_
  refine x_bipush 60 rfl (by decide) ?_
  exact x_icmple rfl h1 (by decide) kt kf
theorem uX12_type_28 {d : Nat} {Q : Int → yM → Prop} {M : yM} {x1 : Int} {x3 : Int} (k : Q (-3) M) : XW kX12_type d (some .int) (wQi Q) 28 [some (.inr (.inr 92)), some (.inr (.inl x1)), none, some (.inl x3), none] [] M := by
  refine x_bipush (-3) rfl (by decide) ?_
  exact x_ireturn rfl k
theorem uX12_type_31 {d : Nat} {Q : Int → yM → Prop} {M : yM} {x1 : Int} {x3 : Int} (k : XW kX12_type d (some .int) (wQi Q) 36 [some (.inr (.inr 92)), some (.inr (.inl x1)), none, some (.inl x3), some (.inl (x3 - 1))] [] M) : XW kX12_type d (some .int) (wQi Q) 31 [some (.inr (.inr 92)), some (.inr (.inl x1)), none, some (.inl x3), none] [] M := by
  refine x_iload_n rfl rfl ?_
  refine x_iconst 1 rfl (by decide) ?_
  refine x_isub rfl ?_
  refine x_istore rfl (Nat.le_of_ble_eq_true rfl) rfl ?_
  exact k
theorem uX12_type_36 {d : Nat} {Q : Int → yM → Prop} {M : yM} {x1 : Int} {x3 : Int} {x4 : Int} (h1 : -2147483648 ≤ x4 ∧ x4 < 2147483648) (kt : x4 < 0 → XW kX12_type d (some .int) (wQi Q) 78 [some (.inr (.inr 92)), some (.inr (.inl x1)), none, some (.inl x3), some (.inl x4)] [] M) (kf : x4 ≥ 0 → XW kX12_type d (some .int) (wQi Q) 41 [some (.inr (.inr 92)), some (.inr (.inl x1)), none, some (.inl x3), some (.inl x4)] [] M) : XW kX12_type d (some .int) (wQi Q) 36 [some (.inr (.inr 92)), some (.inr (.inl x1)), none, some (.inl x3), some (.inl x4)] [] M := by
  refine x_iload rfl rfl ?_
  exact x_iflt rfl h1 kt kf
theorem uX12_type_41 {d : Nat} {Q : Int → yM → Prop} {M : yM} {x1 : Int} {x3 : Int} {x4 : Int} (h1 : 0 ≤ (ld M 92 21) ∧ (ld M 92 21) < 60) (k : ∀ M', M' = (put M 106 (ld M 92 21) (zand (zshr x1 (8 * x4)) 255)) → XW kX12_type d (some .int) (wQi Q) 62 [some (.inr (.inr 92)), some (.inr (.inl x1)), none, some (.inl x3), some (.inl x4)] [] M') : XW kX12_type d (some .int) (wQi Q) 41 [some (.inr (.inr 92)), some (.inr (.inl x1)), none, some (.inl x3), some (.inl x4)] [] M := by
  refine x_aload_n rfl rfl ?_
  refine x_getR rfl sh92 rfl ?_
  refine x_aload_n rfl rfl ?_
  refine x_getI rfl sh92 rfl ?_
  refine x_lload_n rfl rfl ?_
  refine x_bipush 8 rfl (by decide) ?_
  refine x_iload rfl rfl ?_
  refine x_imul rfl ?_
  refine x_lshr rfl ?_
  refine x_ldc2_w 255 rfl (by decide) ?_
  refine x_land rfl ?_
  refine x_l2i rfl ?_
  refine x_iastore rfl ⟨sh106, Nat.le_of_ble_eq_true rfl⟩ h1  ?_
  exact k _ rfl
theorem uX12_type_62 {d : Nat} {Q : Int → yM → Prop} {M : yM} {x1 : Int} {x3 : Int} {x4 : Int} (k : ∀ M', M' = (put M 92 21 ((ld M 92 21) + 1)) → XW kX12_type d (some .int) (wQi Q) 72 [some (.inr (.inr 92)), some (.inr (.inl x1)), none, some (.inl x3), some (.inl x4)] [] M') : XW kX12_type d (some .int) (wQi Q) 62 [some (.inr (.inr 92)), some (.inr (.inl x1)), none, some (.inl x3), some (.inl x4)] [] M := by
  refine x_aload_n rfl rfl ?_
  refine x_dupa rfl ?_
  refine x_getI rfl sh92 rfl ?_
  refine x_iconst 1 rfl (by decide) ?_
  refine x_iadd rfl ?_
  refine x_putI rfl rfl sh92 rfl ?_
  exact k _ rfl
theorem uX12_type_72 {d : Nat} {Q : Int → yM → Prop} {M : yM} {x1 : Int} {x3 : Int} {x4 : Int} (k : XW kX12_type d (some .int) (wQi Q) 36 [some (.inr (.inr 92)), some (.inr (.inl x1)), none, some (.inl x3), some (.inl (x4 + (-1)))] [] M) : XW kX12_type d (some .int) (wQi Q) 72 [some (.inr (.inr 92)), some (.inr (.inl x1)), none, some (.inl x3), some (.inl x4)] [] M := by
  refine x_iinc (-1) rfl (by decide) rfl rfl ?_
  exact x_goto rfl k
theorem uX12_type_78 {d : Nat} {Q : Int → yM → Prop} {M : yM} {x1 : Int} {x3 : Int} {x4 : Int} (k : Q (ld M 92 21) M) : XW kX12_type d (some .int) (wQi Q) 78 [some (.inr (.inr 92)), some (.inr (.inl x1)), none, some (.inl x3), some (.inl x4)] [] M := by
  refine x_aload_n rfl rfl ?_
  refine x_getI rfl sh92 rfl ?_
  exact x_ireturn rfl k
theorem eX12_clear {d : Nat} {Q : Int → yM → Prop} {M : yM}   (h : XW kX12_clear d (some .int) (wQi Q) 0 [some (.inr (.inr 92)), none] [] M) : XCi d 163 [.inr (.inr 92)] M Q :=
  XC.ofW (Mm := (yX12_clear, cX12_clear, 2, (some .int), 13, kX12_clear)) rfl (rcv_ok sh92) rfl rfl h
theorem uX12_clear_0 {d : Nat} {Q : Int → yM → Prop} {M : yM}  (k : ∀ M', M' = (put M 92 0 0) → XW kX12_clear d (some .int) (wQi Q) 5 [some (.inr (.inr 92)), none] [] M') : XW kX12_clear d (some .int) (wQi Q) 0 [some (.inr (.inr 92)), none] [] M := by
  refine x_aload_n rfl rfl ?_
  refine x_iconst 0 rfl (by decide) ?_
  refine x_putI rfl rfl sh92 rfl ?_
  exact k _ rfl
theorem uX12_clear_5 {d : Nat} {Q : Int → yM → Prop} {M : yM}  (k : ∀ M', M' = (put M 92 21 0) → XW kX12_clear d (some .int) (wQi Q) 15 [some (.inr (.inr 92)), some (.inl (ld M 92 21))] [] M') : XW kX12_clear d (some .int) (wQi Q) 5 [some (.inr (.inr 92)), none] [] M := by
  refine x_aload_n rfl rfl ?_
  refine x_getI rfl sh92 rfl ?_
  refine x_istore_n rfl (Nat.le_of_ble_eq_true rfl) rfl ?_
  refine x_aload_n rfl rfl ?_
  refine x_iconst 0 rfl (by decide) ?_
  refine x_putI rfl rfl sh92 rfl ?_
  exact k _ rfl
theorem uX12_clear_15 {d : Nat} {Q : Int → yM → Prop} {M : yM} {x1 : Int} (k : Q x1 M) : XW kX12_clear d (some .int) (wQi Q) 15 [some (.inr (.inr 92)), some (.inl x1)] [] M := by
  refine x_iload_n rfl rfl ?_
  exact x_ireturn rfl k
theorem eX12_isLeaf {d : Nat} {Q : Int → yM → Prop} {M : yM} {x1 : Int}  (h : XW kX12_isLeaf d (some .boolean) (wQi Q) 0 [some (.inr (.inr 92)), some (.inl x1)] [] M) : XCi d 164 [.inr (.inr 92), .inl x1] M Q :=
  XC.ofW (Mm := (yX12_isLeaf, cX12_isLeaf, 2, (some .boolean), 13, kX12_isLeaf)) rfl (rcv_ok sh92) rfl rfl h
theorem uX12_isLeaf_0 {d : Nat} {Q : Int → yM → Prop} {M : yM} {x1 : Int} (k : XCi d 120 [.inl x1, .inl 97, .inl ((97 + (ld M 92 2)) - 1)] M (fun v M' => XW kX12_isLeaf (d + 1) (some .boolean) (wQi Q) 15 [some (.inr (.inr 92)), some (.inl x1)] [.inl v] M')) : XW kX12_isLeaf (d + 1) (some .boolean) (wQi Q) 0 [some (.inr (.inr 92)), some (.inl x1)] [] M := by
  refine x_iload_n rfl rfl ?_
  refine x_bipush 97 rfl (by decide) ?_
  refine x_bipush 97 rfl (by decide) ?_
  refine x_aload_n rfl rfl ?_
  refine x_getI rfl sh92 rfl ?_
  refine x_iadd rfl ?_
  refine x_iconst 1 rfl (by decide) ?_
  refine x_isub rfl ?_
  exact x_calli (args := [.inl x1, .inl 97, .inl ((97 + (ld M 92 2)) - 1)]) rfl rfl rfl k
theorem uX12_isLeaf_15 {d : Nat} {Q : Int → yM → Prop} {M : yM} {x1 : Int} {s0 : Int} (h1 : -2147483648 ≤ s0 ∧ s0 < 2147483648) (kt : s0 ≠ 0 → XW kX12_isLeaf d (some .boolean) (wQi Q) 41 [some (.inr (.inr 92)), some (.inl x1)] [] M) (kf : s0 = 0 → XW kX12_isLeaf d (some .boolean) (wQi Q) 18 [some (.inr (.inr 92)), some (.inl x1)] [] M) : XW kX12_isLeaf d (some .boolean) (wQi Q) 15 [some (.inr (.inr 92)), some (.inl x1)] [.inl s0] M := by
  exact x_ifne rfl h1 kt kf
theorem uX12_isLeaf_18 {d : Nat} {Q : Int → yM → Prop} {M : yM} {x1 : Int} (h1 : -2147483648 ≤ x1 ∧ x1 < 2147483648) (kt : x1 = 49 → XW kX12_isLeaf d (some .boolean) (wQi Q) 41 [some (.inr (.inr 92)), some (.inl x1)] [] M) (kf : x1 ≠ 49 → XW kX12_isLeaf d (some .boolean) (wQi Q) 24 [some (.inr (.inr 92)), some (.inl x1)] [] M) : XW kX12_isLeaf d (some .boolean) (wQi Q) 18 [some (.inr (.inr 92)), some (.inl x1)] [] M := by
  refine x_iload_n rfl rfl ?_
  refine x_bipush 49 rfl (by decide) ?_
  exact x_icmpeq rfl h1 (by decide) kt kf
theorem uX12_isLeaf_24 {d : Nat} {Q : Int → yM → Prop} {M : yM} {x1 : Int} (h1 : -2147483648 ≤ x1 ∧ x1 < 2147483648) (kt : x1 = 48 → XW kX12_isLeaf d (some .boolean) (wQi Q) 41 [some (.inr (.inr 92)), some (.inl x1)] [] M) (kf : x1 ≠ 48 → XW kX12_isLeaf d (some .boolean) (wQi Q) 30 [some (.inr (.inr 92)), some (.inl x1)] [] M) : XW kX12_isLeaf d (some .boolean) (wQi Q) 24 [some (.inr (.inr 92)), some (.inl x1)] [] M := by
  refine x_iload_n rfl rfl ?_
  refine x_bipush 48 rfl (by decide) ?_
  exact x_icmpeq rfl h1 (by decide) kt kf
theorem uX12_isLeaf_30 {d : Nat} {Q : Int → yM → Prop} {M : yM} {x1 : Int} (k : XCi d 120 [.inl x1, .inl 120, .inl 122] M (fun v M' => XW kX12_isLeaf (d + 1) (some .boolean) (wQi Q) 38 [some (.inr (.inr 92)), some (.inl x1)] [.inl v] M')) : XW kX12_isLeaf (d + 1) (some .boolean) (wQi Q) 30 [some (.inr (.inr 92)), some (.inl x1)] [] M := by
  refine x_iload_n rfl rfl ?_
  refine x_bipush 120 rfl (by decide) ?_
  refine x_bipush 122 rfl (by decide) ?_
  exact x_calli (args := [.inl x1, .inl 120, .inl 122]) rfl rfl rfl k
theorem uX12_isLeaf_38 {d : Nat} {Q : Int → yM → Prop} {M : yM} {x1 : Int} {s0 : Int} (h1 : -2147483648 ≤ s0 ∧ s0 < 2147483648) (kt : s0 = 0 → XW kX12_isLeaf d (some .boolean) (wQi Q) 45 [some (.inr (.inr 92)), some (.inl x1)] [] M) (kf : s0 ≠ 0 → XW kX12_isLeaf d (some .boolean) (wQi Q) 41 [some (.inr (.inr 92)), some (.inl x1)] [] M) : XW kX12_isLeaf d (some .boolean) (wQi Q) 38 [some (.inr (.inr 92)), some (.inl x1)] [.inl s0] M := by
  exact x_ifeq rfl h1 kt kf
theorem uX12_isLeaf_41 {d : Nat} {Q : Int → yM → Prop} {M : yM} {x1 : Int} (k : XW kX12_isLeaf d (some .boolean) (wQi Q) 46 [some (.inr (.inr 92)), some (.inl x1)] [.inl 1] M) : XW kX12_isLeaf d (some .boolean) (wQi Q) 41 [some (.inr (.inr 92)), some (.inl x1)] [] M := by
  refine x_iconst 1 rfl (by decide) ?_
  exact x_goto rfl k
theorem uX12_isLeaf_45 {d : Nat} {Q : Int → yM → Prop} {M : yM} {x1 : Int} (k : XW kX12_isLeaf d (some .boolean) (wQi Q) 46 [some (.inr (.inr 92)), some (.inl x1)] [.inl 0] M) : XW kX12_isLeaf d (some .boolean) (wQi Q) 45 [some (.inr (.inr 92)), some (.inl x1)] [] M := by
  refine x_iconst 0 rfl (by decide) ?_
  exact k
theorem uX12_isLeaf_46 {d : Nat} {Q : Int → yM → Prop} {M : yM} {x1 : Int} {s0 : Int} (h1 : s0 = 0 ∨ s0 = 1) (k : Q s0 M) : XW kX12_isLeaf d (some .boolean) (wQi Q) 46 [some (.inr (.inr 92)), some (.inl x1)] [.inl s0] M := by
  exact x_zreturn rfl h1 k
theorem eX12_close {d : Nat} {Q : Int → yM → Prop} {M : yM} {x0 : Int}  (h : XW kX12_close d (some .int) (wQi Q) 0 [some (.inl x0)] [] M) : XCi d 165 [.inl x0] M Q :=
  XC.ofW (Mm := (yX12_close, cX12_close, 1, (some .int), 0, kX12_close)) rfl rfl rfl rfl h
theorem uX12_close_0 {d : Nat} {Q : Int → yM → Prop} {M : yM} {x0 : Int} (h1 : -2147483648 ≤ x0 ∧ x0 < 2147483648) (kt : x0 ≠ 43 → XW kX12_close d (some .int) (wQi Q) 10 [some (.inl x0)] [] M) (kf : x0 = 43 → XW kX12_close d (some .int) (wQi Q) 6 [some (.inl x0)] [] M) : XW kX12_close d (some .int) (wQi Q) 0 [some (.inl x0)] [] M := by
  refine x_iload_n rfl rfl ?_
  refine x_bipush 43 rfl (by decide) ?_
  exact x_icmpne rfl h1 (by decide) kt kf
theorem uX12_close_6 {d : Nat} {Q : Int → yM → Prop} {M : yM} {x0 : Int} (k : XW kX12_close d (some .int) (wQi Q) 31 [some (.inl x0)] [.inl 1] M) : XW kX12_close d (some .int) (wQi Q) 6 [some (.inl x0)] [] M := by
  refine x_iconst 1 rfl (by decide) ?_
  exact x_goto rfl k
theorem uX12_close_10 {d : Nat} {Q : Int → yM → Prop} {M : yM} {x0 : Int} (h1 : -2147483648 ≤ x0 ∧ x0 < 2147483648) (kt : x0 ≠ 38 → XW kX12_close d (some .int) (wQi Q) 20 [some (.inl x0)] [] M) (kf : x0 = 38 → XW kX12_close d (some .int) (wQi Q) 16 [some (.inl x0)] [] M) : XW kX12_close d (some .int) (wQi Q) 10 [some (.inl x0)] [] M := by
  refine x_iload_n rfl rfl ?_
  refine x_bipush 38 rfl (by decide) ?_
  exact x_icmpne rfl h1 (by decide) kt kf
theorem uX12_close_16 {d : Nat} {Q : Int → yM → Prop} {M : yM} {x0 : Int} (k : XW kX12_close d (some .int) (wQi Q) 31 [some (.inl x0)] [.inl 2] M) : XW kX12_close d (some .int) (wQi Q) 16 [some (.inl x0)] [] M := by
  refine x_iconst 2 rfl (by decide) ?_
  exact x_goto rfl k
theorem uX12_close_20 {d : Nat} {Q : Int → yM → Prop} {M : yM} {x0 : Int} (h1 : -2147483648 ≤ x0 ∧ x0 < 2147483648) (kt : x0 ≠ 59 → XW kX12_close d (some .int) (wQi Q) 30 [some (.inl x0)] [] M) (kf : x0 = 59 → XW kX12_close d (some .int) (wQi Q) 26 [some (.inl x0)] [] M) : XW kX12_close d (some .int) (wQi Q) 20 [some (.inl x0)] [] M := by
  refine x_iload_n rfl rfl ?_
  refine x_bipush 59 rfl (by decide) ?_
  exact x_icmpne rfl h1 (by decide) kt kf
theorem uX12_close_26 {d : Nat} {Q : Int → yM → Prop} {M : yM} {x0 : Int} (k : XW kX12_close d (some .int) (wQi Q) 31 [some (.inl x0)] [.inl 3] M) : XW kX12_close d (some .int) (wQi Q) 26 [some (.inl x0)] [] M := by
  refine x_iconst 3 rfl (by decide) ?_
  exact x_goto rfl k
theorem uX12_close_30 {d : Nat} {Q : Int → yM → Prop} {M : yM} {x0 : Int} (k : XW kX12_close d (some .int) (wQi Q) 31 [some (.inl x0)] [.inl 0] M) : XW kX12_close d (some .int) (wQi Q) 30 [some (.inl x0)] [] M := by
  refine x_iconst 0 rfl (by decide) ?_
  exact k
theorem uX12_close_31 {d : Nat} {Q : Int → yM → Prop} {M : yM} {x0 : Int} {s0 : Int} (k : Q s0 M) : XW kX12_close d (some .int) (wQi Q) 31 [some (.inl x0)] [.inl s0] M := by
  exact x_ireturn rfl k
