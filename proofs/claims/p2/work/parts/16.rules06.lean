theorem eX12_isSet {d : Nat} {Q : Int → yM → Prop} {M : yM} {x1 : Int}  (h : XW kX12_isSet d (some .boolean) (wQi Q) 0 [some (.inr (.inr 92)), some (.inl x1)] [] M) : XCi d 123 [.inr (.inr 92), .inl x1] M Q :=
  XC.ofW (Mm := (yX12_isSet, cX12_isSet, 2, (some .boolean), 13, kX12_isSet)) rfl (rcv_ok sh92) rfl rfl h
theorem uX12_isSet_0 {d : Nat} {Q : Int → yM → Prop} {M : yM} {x1 : Int} (k : XCi d 121 [.inr (.inr 92)] M (fun v M' => XW kX12_isSet (d + 1) (some .boolean) (wQi Q) 6 [some (.inr (.inr 92)), some (.inl x1)] [.inl v, .inl 0, .inl x1] M')) : XW kX12_isSet (d + 1) (some .boolean) (wQi Q) 0 [some (.inr (.inr 92)), some (.inl x1)] [] M := by
  refine x_iload_n rfl rfl ?_
  refine x_iconst 0 rfl (by decide) ?_
  refine x_aload_n rfl rfl ?_
  exact x_calli (args := [.inr (.inr 92)]) rfl rfl rfl k
theorem uX12_isSet_6 {d : Nat} {Q : Int → yM → Prop} {M : yM} {x1 : Int} {s0 : Int} {s1 : Int} {s2 : Int} (k : XCi d 120 [.inl s2, .inl s1, .inl s0] M (fun v M' => XW kX12_isSet (d + 1) (some .boolean) (wQi Q) 9 [some (.inr (.inr 92)), some (.inl x1)] [.inl v] M')) : XW kX12_isSet (d + 1) (some .boolean) (wQi Q) 6 [some (.inr (.inr 92)), some (.inl x1)] [.inl s0, .inl s1, .inl s2] M := by
  exact x_calli (args := [.inl s2, .inl s1, .inl s0]) rfl rfl rfl k
theorem uX12_isSet_9 {d : Nat} {Q : Int → yM → Prop} {M : yM} {x1 : Int} {s0 : Int} (h1 : s0 = 0 ∨ s0 = 1) (k : Q s0 M) : XW kX12_isSet d (some .boolean) (wQi Q) 9 [some (.inr (.inr 92)), some (.inl x1)] [.inl s0] M := by
  exact x_zreturn rfl h1 k
theorem eX12_isPoint {d : Nat} {Q : Int → yM → Prop} {M : yM} {x1 : Int}  (h : XW kX12_isPoint d (some .boolean) (wQi Q) 0 [some (.inr (.inr 92)), some (.inl x1)] [] M) : XCi d 124 [.inr (.inr 92), .inl x1] M Q :=
  XC.ofW (Mm := (yX12_isPoint, cX12_isPoint, 2, (some .boolean), 13, kX12_isPoint)) rfl (rcv_ok sh92) rfl rfl h
theorem uX12_isPoint_0 {d : Nat} {Q : Int → yM → Prop} {M : yM} {x1 : Int} (k : XCi d 120 [.inl x1, .inl 0, .inl ((ld M 92 11) - 1)] M (fun v M' => XW kX12_isPoint (d + 1) (some .boolean) (wQi Q) 11 [some (.inr (.inr 92)), some (.inl x1)] [.inl v] M')) : XW kX12_isPoint (d + 1) (some .boolean) (wQi Q) 0 [some (.inr (.inr 92)), some (.inl x1)] [] M := by
  refine x_iload_n rfl rfl ?_
  refine x_iconst 0 rfl (by decide) ?_
  refine x_aload_n rfl rfl ?_
  refine x_getI rfl sh92 rfl ?_
  refine x_iconst 1 rfl (by decide) ?_
  refine x_isub rfl ?_
  exact x_calli (args := [.inl x1, .inl 0, .inl ((ld M 92 11) - 1)]) rfl rfl rfl k
theorem uX12_isPoint_11 {d : Nat} {Q : Int → yM → Prop} {M : yM} {x1 : Int} {s0 : Int} (h1 : s0 = 0 ∨ s0 = 1) (k : Q s0 M) : XW kX12_isPoint d (some .boolean) (wQi Q) 11 [some (.inr (.inr 92)), some (.inl x1)] [.inl s0] M := by
  exact x_zreturn rfl h1 k
theorem eX12_mayBe {d : Nat} {Q : Int → yM → Prop} {M : yM} {x1 : Int} {x2 : Int} {x3 : Int}  (h : XW kX12_mayBe d (some .boolean) (wQi Q) 0 [some (.inr (.inr 92)), some (.inl x1), some (.inl x2), some (.inl x3)] [] M) : XCi d 125 [.inr (.inr 92), .inl x1, .inl x2, .inl x3] M Q :=
  XC.ofW (Mm := (yX12_mayBe, cX12_mayBe, 4, (some .boolean), 13, kX12_mayBe)) rfl (rcv_ok sh92) rfl rfl h
theorem uX12_mayBe_0 {d : Nat} {Q : Int → yM → Prop} {M : yM} {x1 : Int} {x2 : Int} {x3 : Int} (h1 : 0 ≤ ((8 * x1) + x2) ∧ ((8 * x1) + x2) < 64) (kt : (yand (yshr (ld M 94 ((8 * x1) + x2)) x3) 1) ≠ 1 → XW kX12_mayBe d (some .boolean) (wQi Q) 23 [some (.inr (.inr 92)), some (.inl x1), some (.inl x2), some (.inl x3)] [] M) (kf : (yand (yshr (ld M 94 ((8 * x1) + x2)) x3) 1) = 1 → XW kX12_mayBe d (some .boolean) (wQi Q) 19 [some (.inr (.inr 92)), some (.inl x1), some (.inl x2), some (.inl x3)] [] M) : XW kX12_mayBe d (some .boolean) (wQi Q) 0 [some (.inr (.inr 92)), some (.inl x1), some (.inl x2), some (.inl x3)] [] M := by
  refine x_aload_n rfl rfl ?_
  refine x_getR rfl sh92 rfl ?_
  refine x_bipush 8 rfl (by decide) ?_
  refine x_iload_n rfl rfl ?_
  refine x_imul rfl ?_
  refine x_iload_n rfl rfl ?_
  refine x_iadd rfl ?_
  refine x_iaload rfl ⟨sh94, Nat.le_of_ble_eq_true rfl⟩ h1 ?_
  refine x_iload_n rfl rfl ?_
  refine x_ishr rfl ?_
  refine x_iconst 1 rfl (by decide) ?_
  refine x_iand rfl ?_
  refine x_iconst 1 rfl (by decide) ?_
  exact x_icmpne rfl (rng_yand _ _) (by decide) kt kf
theorem uX12_mayBe_19 {d : Nat} {Q : Int → yM → Prop} {M : yM} {x1 : Int} {x2 : Int} {x3 : Int} (k : XW kX12_mayBe d (some .boolean) (wQi Q) 24 [some (.inr (.inr 92)), some (.inl x1), some (.inl x2), some (.inl x3)] [.inl 1] M) : XW kX12_mayBe d (some .boolean) (wQi Q) 19 [some (.inr (.inr 92)), some (.inl x1), some (.inl x2), some (.inl x3)] [] M := by
  refine x_iconst 1 rfl (by decide) ?_
  exact x_goto rfl k
theorem uX12_mayBe_23 {d : Nat} {Q : Int → yM → Prop} {M : yM} {x1 : Int} {x2 : Int} {x3 : Int} (k : XW kX12_mayBe d (some .boolean) (wQi Q) 24 [some (.inr (.inr 92)), some (.inl x1), some (.inl x2), some (.inl x3)] [.inl 0] M) : XW kX12_mayBe d (some .boolean) (wQi Q) 23 [some (.inr (.inr 92)), some (.inl x1), some (.inl x2), some (.inl x3)] [] M := by
  refine x_iconst 0 rfl (by decide) ?_
  exact k
theorem uX12_mayBe_24 {d : Nat} {Q : Int → yM → Prop} {M : yM} {x1 : Int} {x2 : Int} {x3 : Int} {s0 : Int} (h1 : s0 = 0 ∨ s0 = 1) (k : Q s0 M) : XW kX12_mayBe d (some .boolean) (wQi Q) 24 [some (.inr (.inr 92)), some (.inl x1), some (.inl x2), some (.inl x3)] [.inl s0] M := by
  exact x_zreturn rfl h1 k
theorem eX12_opens {d : Nat} {Q : yM → Prop} {M : yM}   (h : XW kX12_opens d none (wQv Q) 0 [some (.inr (.inr 92)), none, none, none] [] M) : XCv d 126 [.inr (.inr 92)] M Q :=
  XC.ofW (Mm := (yX12_opens, cX12_opens, 4, none, 13, kX12_opens)) rfl (rcv_ok sh92) rfl rfl h
theorem uX12_opens_0 {d : Nat} {Q : yM → Prop} {M : yM}  (k : XW kX12_opens d none (wQv Q) 2 [some (.inr (.inr 92)), some (.inl 0), none, none] [] M) : XW kX12_opens d none (wQv Q) 0 [some (.inr (.inr 92)), none, none, none] [] M := by
  refine x_iconst 0 rfl (by decide) ?_
  refine x_istore_n rfl (Nat.le_of_ble_eq_true rfl) rfl ?_
  exact k
theorem uX12_opens_2 {d : Nat} {Q : yM → Prop} {M : yM} {x1 : Int} {wx2 : Option yV} {wx3 : Option yV} (h1 : -2147483648 ≤ x1 ∧ x1 < 2147483648) (kt : x1 ≥ (ld M 92 2) → XW kX12_opens d none (wQv Q) 88 [some (.inr (.inr 92)), some (.inl x1), wx2, wx3] [] M) (kf : x1 < (ld M 92 2) → XW kX12_opens d none (wQv Q) 10 [some (.inr (.inr 92)), some (.inl x1), wx2, wx3] [] M) : XW kX12_opens d none (wQv Q) 2 [some (.inr (.inr 92)), some (.inl x1), wx2, wx3] [] M := by
  refine x_iload_n rfl rfl ?_
  refine x_aload_n rfl rfl ?_
  refine x_getI rfl sh92 rfl ?_
  exact x_icmpge rfl h1 (rng_ld _ _ _) kt kf
theorem uX12_opens_10 {d : Nat} {Q : yM → Prop} {M : yM} {x1 : Int} {wx2 : Option yV} {wx3 : Option yV} (k : XW kX12_opens d none (wQv Q) 12 [some (.inr (.inr 92)), some (.inl x1), some (.inl 0), wx3] [] M) : XW kX12_opens d none (wQv Q) 10 [some (.inr (.inr 92)), some (.inl x1), wx2, wx3] [] M := by
  refine x_iconst 0 rfl (by decide) ?_
  refine x_istore_n rfl (Nat.le_of_ble_eq_true rfl) rfl ?_
  exact k
theorem uX12_opens_12 {d : Nat} {Q : yM → Prop} {M : yM} {x1 : Int} {x2 : Int} {wx3 : Option yV} (h1 : -2147483648 ≤ x2 ∧ x2 < 2147483648) (kt : x2 ≥ (ld M 92 2) → XW kX12_opens d none (wQv Q) 82 [some (.inr (.inr 92)), some (.inl x1), some (.inl x2), wx3] [] M) (kf : x2 < (ld M 92 2) → XW kX12_opens d none (wQv Q) 20 [some (.inr (.inr 92)), some (.inl x1), some (.inl x2), wx3] [] M) : XW kX12_opens d none (wQv Q) 12 [some (.inr (.inr 92)), some (.inl x1), some (.inl x2), wx3] [] M := by
  refine x_iload_n rfl rfl ?_
  refine x_aload_n rfl rfl ?_
  refine x_getI rfl sh92 rfl ?_
  exact x_icmpge rfl h1 (rng_ld _ _ _) kt kf
theorem uX12_opens_20 {d : Nat} {Q : yM → Prop} {M : yM} {x1 : Int} {x2 : Int} {wx3 : Option yV} (h1 : -2147483648 ≤ x1 ∧ x1 < 2147483648) (kt : x1 ≠ 0 → XW kX12_opens d none (wQv Q) 30 [some (.inr (.inr 92)), some (.inl x1), some (.inl x2), wx3] [] M) (kf : x1 = 0 → XW kX12_opens d none (wQv Q) 24 [some (.inr (.inr 92)), some (.inl x1), some (.inl x2), wx3] [] M) : XW kX12_opens d none (wQv Q) 20 [some (.inr (.inr 92)), some (.inl x1), some (.inl x2), wx3] [] M := by
  refine x_iload_n rfl rfl ?_
  exact x_ifne rfl h1 kt kf
theorem uX12_opens_24 {d : Nat} {Q : yM → Prop} {M : yM} {x1 : Int} {x2 : Int} {wx3 : Option yV} (k : XW kX12_opens d none (wQv Q) 47 [some (.inr (.inr 92)), some (.inl x1), some (.inl x2), wx3] [.inl (yshl 1 x2)] M) : XW kX12_opens d none (wQv Q) 24 [some (.inr (.inr 92)), some (.inl x1), some (.inl x2), wx3] [] M := by
  refine x_iconst 1 rfl (by decide) ?_
  refine x_iload_n rfl rfl ?_
  refine x_ishl rfl ?_
  exact x_goto rfl k
theorem uX12_opens_30 {d : Nat} {Q : yM → Prop} {M : yM} {x1 : Int} {x2 : Int} {wx3 : Option yV} (h1 : -2147483648 ≤ x2 ∧ x2 < 2147483648) (kt : x2 ≠ 0 → XW kX12_opens d none (wQv Q) 40 [some (.inr (.inr 92)), some (.inl x1), some (.inl x2), wx3] [] M) (kf : x2 = 0 → XW kX12_opens d none (wQv Q) 34 [some (.inr (.inr 92)), some (.inl x1), some (.inl x2), wx3] [] M) : XW kX12_opens d none (wQv Q) 30 [some (.inr (.inr 92)), some (.inl x1), some (.inl x2), wx3] [] M := by
  refine x_iload_n rfl rfl ?_
  exact x_ifne rfl h1 kt kf
theorem uX12_opens_34 {d : Nat} {Q : yM → Prop} {M : yM} {x1 : Int} {x2 : Int} {wx3 : Option yV} (k : XW kX12_opens d none (wQv Q) 47 [some (.inr (.inr 92)), some (.inl x1), some (.inl x2), wx3] [.inl (yshl 1 x1)] M) : XW kX12_opens d none (wQv Q) 34 [some (.inr (.inr 92)), some (.inl x1), some (.inl x2), wx3] [] M := by
  refine x_iconst 1 rfl (by decide) ?_
  refine x_iload_n rfl rfl ?_
  refine x_ishl rfl ?_
  exact x_goto rfl k
theorem uX12_opens_40 {d : Nat} {Q : yM → Prop} {M : yM} {x1 : Int} {x2 : Int} {wx3 : Option yV} (k : XCi d 121 [.inr (.inr 92)] M (fun v M' => XW kX12_opens (d + 1) none (wQv Q) 44 [some (.inr (.inr 92)), some (.inl x1), some (.inl x2), wx3] [.inl v] M')) : XW kX12_opens (d + 1) none (wQv Q) 40 [some (.inr (.inr 92)), some (.inl x1), some (.inl x2), wx3] [] M := by
  refine x_aload_n rfl rfl ?_
  exact x_calli (args := [.inr (.inr 92)]) rfl rfl rfl k
theorem uX12_opens_44 {d : Nat} {Q : yM → Prop} {M : yM} {x1 : Int} {x2 : Int} {wx3 : Option yV} {s0 : Int} (k : XW kX12_opens d none (wQv Q) 47 [some (.inr (.inr 92)), some (.inl x1), some (.inl x2), wx3] [.inl (yand s0 (-2))] M) : XW kX12_opens d none (wQv Q) 44 [some (.inr (.inr 92)), some (.inl x1), some (.inl x2), wx3] [.inl s0] M := by
  refine x_bipush (-2) rfl (by decide) ?_
  refine x_iand rfl ?_
  exact k
theorem uX12_opens_47 {d : Nat} {Q : yM → Prop} {M : yM} {x1 : Int} {x2 : Int} {wx3 : Option yV} {s0 : Int} (h1 : 0 ≤ x1 ∧ x1 < 8) (h2 : -2147483648 ≤ x2 ∧ x2 < 2147483648) (kt : x2 ≠ (ld M 93 x1) → XW kX12_opens d none (wQv Q) 73 [some (.inr (.inr 92)), some (.inl x1), some (.inl x2), some (.inl s0)] [.inl s0, .inl ((8 * x1) + x2), .inr (.inr 94)] M) (kf : x2 = (ld M 93 x1) → XW kX12_opens d none (wQv Q) 69 [some (.inr (.inr 92)), some (.inl x1), some (.inl x2), some (.inl s0)] [.inl s0, .inl ((8 * x1) + x2), .inr (.inr 94)] M) : XW kX12_opens d none (wQv Q) 47 [some (.inr (.inr 92)), some (.inl x1), some (.inl x2), wx3] [.inl s0] M := by
  refine x_istore_n rfl (Nat.le_of_ble_eq_true rfl) rfl ?_
  refine x_aload_n rfl rfl ?_
  refine x_getR rfl sh92 rfl ?_
  refine x_bipush 8 rfl (by decide) ?_
  refine x_iload_n rfl rfl ?_
  refine x_imul rfl ?_
  refine x_iload_n rfl rfl ?_
  refine x_iadd rfl ?_
  refine x_iload_n rfl rfl ?_
  refine x_iload_n rfl rfl ?_
  refine x_aload_n rfl rfl ?_
  refine x_getR rfl sh92 rfl ?_
  refine x_iload_n rfl rfl ?_
  refine x_iaload rfl ⟨sh93, Nat.le_of_ble_eq_true rfl⟩ h1 ?_
  exact x_icmpne rfl h2 (rng_ld _ _ _) kt kf
theorem uX12_opens_69 {d : Nat} {Q : yM → Prop} {M : yM} {x1 : Int} {x2 : Int} {x3 : Int} {s0 : Int} {s1 : Int} (k : XW kX12_opens d none (wQv Q) 74 [some (.inr (.inr 92)), some (.inl x1), some (.inl x2), some (.inl x3)] [.inl 1, .inl s0, .inl s1, .inr (.inr 94)] M) : XW kX12_opens d none (wQv Q) 69 [some (.inr (.inr 92)), some (.inl x1), some (.inl x2), some (.inl x3)] [.inl s0, .inl s1, .inr (.inr 94)] M := by
  refine x_iconst 1 rfl (by decide) ?_
  exact x_goto rfl k
theorem uX12_opens_73 {d : Nat} {Q : yM → Prop} {M : yM} {x1 : Int} {x2 : Int} {x3 : Int} {s0 : Int} {s1 : Int} (k : XW kX12_opens d none (wQv Q) 74 [some (.inr (.inr 92)), some (.inl x1), some (.inl x2), some (.inl x3)] [.inl 0, .inl s0, .inl s1, .inr (.inr 94)] M) : XW kX12_opens d none (wQv Q) 73 [some (.inr (.inr 92)), some (.inl x1), some (.inl x2), some (.inl x3)] [.inl s0, .inl s1, .inr (.inr 94)] M := by
  refine x_iconst 0 rfl (by decide) ?_
  exact k
theorem uX12_opens_74 {d : Nat} {Q : yM → Prop} {M : yM} {x1 : Int} {x2 : Int} {x3 : Int} {s0 : Int} {s1 : Int} {s2 : Int} (h1 : 0 ≤ s2 ∧ s2 < 64) (k : ∀ M', M' = (put M 94 s2 (yor s1 s0)) → XW kX12_opens d none (wQv Q) 76 [some (.inr (.inr 92)), some (.inl x1), some (.inl x2), some (.inl x3)] [] M') : XW kX12_opens d none (wQv Q) 74 [some (.inr (.inr 92)), some (.inl x1), some (.inl x2), some (.inl x3)] [.inl s0, .inl s1, .inl s2, .inr (.inr 94)] M := by
  refine x_ior rfl ?_
  refine x_iastore rfl ⟨sh94, Nat.le_of_ble_eq_true rfl⟩ h1  ?_
  exact k _ rfl
theorem uX12_opens_76 {d : Nat} {Q : yM → Prop} {M : yM} {x1 : Int} {x2 : Int} {x3 : Int} (k : XW kX12_opens d none (wQv Q) 12 [some (.inr (.inr 92)), some (.inl x1), some (.inl (x2 + 1)), some (.inl x3)] [] M) : XW kX12_opens d none (wQv Q) 76 [some (.inr (.inr 92)), some (.inl x1), some (.inl x2), some (.inl x3)] [] M := by
  refine x_iinc 1 rfl (by decide) rfl rfl ?_
  exact x_goto rfl k
theorem uX12_opens_82 {d : Nat} {Q : yM → Prop} {M : yM} {x1 : Int} {x2 : Int} {wx3 : Option yV} (k : XW kX12_opens d none (wQv Q) 2 [some (.inr (.inr 92)), some (.inl (x1 + 1)), some (.inl x2), wx3] [] M) : XW kX12_opens d none (wQv Q) 82 [some (.inr (.inr 92)), some (.inl x1), some (.inl x2), wx3] [] M := by
  refine x_iinc 1 rfl (by decide) rfl rfl ?_
  exact x_goto rfl k
theorem uX12_opens_88 {d : Nat} {Q : yM → Prop} {M : yM} {x1 : Int} {wx2 : Option yV} {wx3 : Option yV} (k : Q M) : XW kX12_opens d none (wQv Q) 88 [some (.inr (.inr 92)), some (.inl x1), wx2, wx3] [] M := by
  exact x_return rfl k
theorem eX12_frees {d : Nat} {Q : yM → Prop} {M : yM}   (h : XW kX12_frees d none (wQv Q) 0 [some (.inr (.inr 92)), none, none] [] M) : XCv d 127 [.inr (.inr 92)] M Q :=
  XC.ofW (Mm := (yX12_frees, cX12_frees, 3, none, 13, kX12_frees)) rfl (rcv_ok sh92) rfl rfl h
theorem uX12_frees_0 {d : Nat} {Q : yM → Prop} {M : yM}  (k : XW kX12_frees d none (wQv Q) 2 [some (.inr (.inr 92)), some (.inl 0), none] [] M) : XW kX12_frees d none (wQv Q) 0 [some (.inr (.inr 92)), none, none] [] M := by
  refine x_iconst 0 rfl (by decide) ?_
  refine x_istore_n rfl (Nat.le_of_ble_eq_true rfl) rfl ?_
  exact k
theorem uX12_frees_2 {d : Nat} {Q : yM → Prop} {M : yM} {x1 : Int} {wx2 : Option yV} (h1 : -2147483648 ≤ x1 ∧ x1 < 2147483648) (kt : x1 ≥ 8 → XW kX12_frees d none (wQv Q) 52 [some (.inr (.inr 92)), some (.inl x1), wx2] [] M) (kf : x1 < 8 → XW kX12_frees d none (wQv Q) 8 [some (.inr (.inr 92)), some (.inl x1), wx2] [] M) : XW kX12_frees d none (wQv Q) 2 [some (.inr (.inr 92)), some (.inl x1), wx2] [] M := by
  refine x_iload_n rfl rfl ?_
  refine x_bipush 8 rfl (by decide) ?_
  exact x_icmpge rfl h1 (by decide) kt kf
theorem uX12_frees_8 {d : Nat} {Q : yM → Prop} {M : yM} {x1 : Int} {wx2 : Option yV} (k : XW kX12_frees d none (wQv Q) 10 [some (.inr (.inr 92)), some (.inl x1), some (.inl 0)] [] M) : XW kX12_frees d none (wQv Q) 8 [some (.inr (.inr 92)), some (.inl x1), wx2] [] M := by
  refine x_iconst 0 rfl (by decide) ?_
  refine x_istore_n rfl (Nat.le_of_ble_eq_true rfl) rfl ?_
  exact k
theorem uX12_frees_10 {d : Nat} {Q : yM → Prop} {M : yM} {x1 : Int} {x2 : Int} (h1 : -2147483648 ≤ x2 ∧ x2 < 2147483648) (kt : x2 ≥ 8 → XW kX12_frees d none (wQv Q) 46 [some (.inr (.inr 92)), some (.inl x1), some (.inl x2)] [] M) (kf : x2 < 8 → XW kX12_frees d none (wQv Q) 16 [some (.inr (.inr 92)), some (.inl x1), some (.inl x2)] [] M) : XW kX12_frees d none (wQv Q) 10 [some (.inr (.inr 92)), some (.inl x1), some (.inl x2)] [] M := by
  refine x_iload_n rfl rfl ?_
  refine x_bipush 8 rfl (by decide) ?_
  exact x_icmpge rfl h1 (by decide) kt kf
theorem uX12_frees_16 {d : Nat} {Q : yM → Prop} {M : yM} {x1 : Int} {x2 : Int} (h1 : -2147483648 ≤ x1 ∧ x1 < 2147483648) (h2 : -2147483648 ≤ x2 ∧ x2 < 2147483648) (kt : x1 ≠ x2 → XW kX12_frees d none (wQv Q) 35 [some (.inr (.inr 92)), some (.inl x1), some (.inl x2)] [.inl ((8 * x1) + x2), .inr (.inr 100)] M) (kf : x1 = x2 → XW kX12_frees d none (wQv Q) 31 [some (.inr (.inr 92)), some (.inl x1), some (.inl x2)] [.inl ((8 * x1) + x2), .inr (.inr 100)] M) : XW kX12_frees d none (wQv Q) 16 [some (.inr (.inr 92)), some (.inl x1), some (.inl x2)] [] M := by
  refine x_aload_n rfl rfl ?_
  refine x_getR rfl sh92 rfl ?_
  refine x_bipush 8 rfl (by decide) ?_
  refine x_iload_n rfl rfl ?_
  refine x_imul rfl ?_
  refine x_iload_n rfl rfl ?_
  refine x_iadd rfl ?_
  refine x_iload_n rfl rfl ?_
  refine x_iload_n rfl rfl ?_
  exact x_icmpne rfl h1 h2 kt kf
theorem uX12_frees_31 {d : Nat} {Q : yM → Prop} {M : yM} {x1 : Int} {x2 : Int} {s0 : Int} (k : XW kX12_frees d none (wQv Q) 39 [some (.inr (.inr 92)), some (.inl x1), some (.inl x2)] [.inl 1, .inl s0, .inr (.inr 100)] M) : XW kX12_frees d none (wQv Q) 31 [some (.inr (.inr 92)), some (.inl x1), some (.inl x2)] [.inl s0, .inr (.inr 100)] M := by
  refine x_iconst 1 rfl (by decide) ?_
  exact x_goto rfl k
theorem uX12_frees_35 {d : Nat} {Q : yM → Prop} {M : yM} {x1 : Int} {x2 : Int} {s0 : Int} (k : XCi d 121 [.inr (.inr 92)] M (fun v M' => XW kX12_frees (d + 1) none (wQv Q) 39 [some (.inr (.inr 92)), some (.inl x1), some (.inl x2)] [.inl v, .inl s0, .inr (.inr 100)] M')) : XW kX12_frees (d + 1) none (wQv Q) 35 [some (.inr (.inr 92)), some (.inl x1), some (.inl x2)] [.inl s0, .inr (.inr 100)] M := by
  refine x_aload_n rfl rfl ?_
  exact x_calli (args := [.inr (.inr 92)]) rfl rfl rfl k
theorem uX12_frees_39 {d : Nat} {Q : yM → Prop} {M : yM} {x1 : Int} {x2 : Int} {s0 : Int} {s1 : Int} (h1 : 0 ≤ s1 ∧ s1 < 2048) (k : ∀ M', M' = (put M 100 s1 s0) → XW kX12_frees d none (wQv Q) 40 [some (.inr (.inr 92)), some (.inl x1), some (.inl x2)] [] M') : XW kX12_frees d none (wQv Q) 39 [some (.inr (.inr 92)), some (.inl x1), some (.inl x2)] [.inl s0, .inl s1, .inr (.inr 100)] M := by
  refine x_iastore rfl ⟨sh100, Nat.le_of_ble_eq_true rfl⟩ h1  ?_
  exact k _ rfl
theorem uX12_frees_40 {d : Nat} {Q : yM → Prop} {M : yM} {x1 : Int} {x2 : Int} (k : XW kX12_frees d none (wQv Q) 10 [some (.inr (.inr 92)), some (.inl x1), some (.inl (x2 + 1))] [] M) : XW kX12_frees d none (wQv Q) 40 [some (.inr (.inr 92)), some (.inl x1), some (.inl x2)] [] M := by
  refine x_iinc 1 rfl (by decide) rfl rfl ?_
  exact x_goto rfl k
theorem uX12_frees_46 {d : Nat} {Q : yM → Prop} {M : yM} {x1 : Int} {x2 : Int} (k : XW kX12_frees d none (wQv Q) 2 [some (.inr (.inr 92)), some (.inl (x1 + 1)), some (.inl x2)] [] M) : XW kX12_frees d none (wQv Q) 46 [some (.inr (.inr 92)), some (.inl x1), some (.inl x2)] [] M := by
  refine x_iinc 1 rfl (by decide) rfl rfl ?_
  exact x_goto rfl k
theorem uX12_frees_52 {d : Nat} {Q : yM → Prop} {M : yM} {x1 : Int} {wx2 : Option yV} (k : Q M) : XW kX12_frees d none (wQv Q) 52 [some (.inr (.inr 92)), some (.inl x1), wx2] [] M := by
  exact x_return rfl k
theorem eX12_empties {d : Nat} {Q : yM → Prop} {M : yM}   (h : XW kX12_empties d none (wQv Q) 0 [some (.inr (.inr 92)), none] [] M) : XCv d 128 [.inr (.inr 92)] M Q :=
  XC.ofW (Mm := (yX12_empties, cX12_empties, 2, none, 13, kX12_empties)) rfl (rcv_ok sh92) rfl rfl h
theorem uX12_empties_0 {d : Nat} {Q : yM → Prop} {M : yM}  (k : XW kX12_empties d none (wQv Q) 2 [some (.inr (.inr 92)), some (.inl 0)] [] M) : XW kX12_empties d none (wQv Q) 0 [some (.inr (.inr 92)), none] [] M := by
  refine x_iconst 0 rfl (by decide) ?_
  refine x_istore_n rfl (Nat.le_of_ble_eq_true rfl) rfl ?_
  exact k
theorem uX12_empties_2 {d : Nat} {Q : yM → Prop} {M : yM} {x1 : Int} (h1 : -2147483648 ≤ x1 ∧ x1 < 2147483648) (kt : x1 ≥ 4 → XW kX12_empties d none (wQv Q) 31 [some (.inr (.inr 92)), some (.inl x1)] [] M) (kf : x1 < 4 → XW kX12_empties d none (wQv Q) 7 [some (.inr (.inr 92)), some (.inl x1)] [] M) : XW kX12_empties d none (wQv Q) 2 [some (.inr (.inr 92)), some (.inl x1)] [] M := by
  refine x_iload_n rfl rfl ?_
  refine x_iconst 4 rfl (by decide) ?_
  exact x_icmpge rfl h1 (by decide) kt kf
theorem uX12_empties_7 {d : Nat} {Q : yM → Prop} {M : yM} {x1 : Int} (h1 : 0 ≤ (60 * x1) ∧ (60 * x1) < 240) (k : ∀ M', M' = (put M 107 (60 * x1) 48) → XW kX12_empties d none (wQv Q) 18 [some (.inr (.inr 92)), some (.inl x1)] [] M') : XW kX12_empties d none (wQv Q) 7 [some (.inr (.inr 92)), some (.inl x1)] [] M := by
  refine x_aload_n rfl rfl ?_
  refine x_getR rfl sh92 rfl ?_
  refine x_bipush 60 rfl (by decide) ?_
  refine x_iload_n rfl rfl ?_
  refine x_imul rfl ?_
  refine x_bipush 48 rfl (by decide) ?_
  refine x_iastore rfl ⟨sh107, Nat.le_of_ble_eq_true rfl⟩ h1  ?_
  exact k _ rfl
theorem uX12_empties_18 {d : Nat} {Q : yM → Prop} {M : yM} {x1 : Int} (h1 : 0 ≤ x1 ∧ x1 < 4) (k : ∀ M', M' = (put M 108 x1 1) → XW kX12_empties d none (wQv Q) 25 [some (.inr (.inr 92)), some (.inl x1)] [] M') : XW kX12_empties d none (wQv Q) 18 [some (.inr (.inr 92)), some (.inl x1)] [] M := by
  refine x_aload_n rfl rfl ?_
  refine x_getR rfl sh92 rfl ?_
  refine x_iload_n rfl rfl ?_
  refine x_iconst 1 rfl (by decide) ?_
  refine x_iastore rfl ⟨sh108, Nat.le_of_ble_eq_true rfl⟩ h1  ?_
  exact k _ rfl
theorem uX12_empties_25 {d : Nat} {Q : yM → Prop} {M : yM} {x1 : Int} (k : XW kX12_empties d none (wQv Q) 2 [some (.inr (.inr 92)), some (.inl (x1 + 1))] [] M) : XW kX12_empties d none (wQv Q) 25 [some (.inr (.inr 92)), some (.inl x1)] [] M := by
  refine x_iinc 1 rfl (by decide) rfl rfl ?_
  exact x_goto rfl k
theorem uX12_empties_31 {d : Nat} {Q : yM → Prop} {M : yM} {x1 : Int} (k : Q M) : XW kX12_empties d none (wQv Q) 31 [some (.inr (.inr 92)), some (.inl x1)] [] M := by
  exact x_return rfl k
theorem eX12_begins {d : Nat} {Q : yM → Prop} {M : yM} {x1 : Int}  (h : XW kX12_begins d none (wQv Q) 0 [some (.inr (.inr 92)), some (.inl x1), none] [] M) : XCv d 129 [.inr (.inr 92), .inl x1] M Q :=
  XC.ofW (Mm := (yX12_begins, cX12_begins, 3, none, 13, kX12_begins)) rfl (rcv_ok sh92) rfl rfl h
theorem uX12_begins_0 {d : Nat} {Q : yM → Prop} {M : yM} {x1 : Int} (k : ∀ M', M' = (put M 92 2 x1) → XW kX12_begins d none (wQv Q) 5 [some (.inr (.inr 92)), some (.inl x1), none] [] M') : XW kX12_begins d none (wQv Q) 0 [some (.inr (.inr 92)), some (.inl x1), none] [] M := by
  refine x_aload_n rfl rfl ?_
  refine x_iload_n rfl rfl ?_
  refine x_putI rfl rfl sh92 rfl ?_
  exact k _ rfl
theorem uX12_begins_5 {d : Nat} {Q : yM → Prop} {M : yM} {x1 : Int} (k : XW kX12_begins d none (wQv Q) 7 [some (.inr (.inr 92)), some (.inl x1), some (.inl 0)] [] M) : XW kX12_begins d none (wQv Q) 5 [some (.inr (.inr 92)), some (.inl x1), none] [] M := by
  refine x_iconst 0 rfl (by decide) ?_
  refine x_istore_n rfl (Nat.le_of_ble_eq_true rfl) rfl ?_
  exact k
theorem uX12_begins_7 {d : Nat} {Q : yM → Prop} {M : yM} {x1 : Int} {x2 : Int} (h1 : -2147483648 ≤ x2 ∧ x2 < 2147483648) (kt : x2 ≥ 8 → XW kX12_begins d none (wQv Q) 26 [some (.inr (.inr 92)), some (.inl x1), some (.inl x2)] [] M) (kf : x2 < 8 → XW kX12_begins d none (wQv Q) 13 [some (.inr (.inr 92)), some (.inl x1), some (.inl x2)] [] M) : XW kX12_begins d none (wQv Q) 7 [some (.inr (.inr 92)), some (.inl x1), some (.inl x2)] [] M := by
  refine x_iload_n rfl rfl ?_
  refine x_bipush 8 rfl (by decide) ?_
  exact x_icmpge rfl h1 (by decide) kt kf
theorem uX12_begins_13 {d : Nat} {Q : yM → Prop} {M : yM} {x1 : Int} {x2 : Int} (h1 : 0 ≤ x2 ∧ x2 < 8) (k : ∀ M', M' = (put M 93 x2 x2) → XW kX12_begins d none (wQv Q) 20 [some (.inr (.inr 92)), some (.inl x1), some (.inl x2)] [] M') : XW kX12_begins d none (wQv Q) 13 [some (.inr (.inr 92)), some (.inl x1), some (.inl x2)] [] M := by
  refine x_aload_n rfl rfl ?_
  refine x_getR rfl sh92 rfl ?_
  refine x_iload_n rfl rfl ?_
  refine x_iload_n rfl rfl ?_
  refine x_iastore rfl ⟨sh93, Nat.le_of_ble_eq_true rfl⟩ h1  ?_
  exact k _ rfl
theorem uX12_begins_20 {d : Nat} {Q : yM → Prop} {M : yM} {x1 : Int} {x2 : Int} (k : XW kX12_begins d none (wQv Q) 7 [some (.inr (.inr 92)), some (.inl x1), some (.inl (x2 + 1))] [] M) : XW kX12_begins d none (wQv Q) 20 [some (.inr (.inr 92)), some (.inl x1), some (.inl x2)] [] M := by
  refine x_iinc 1 rfl (by decide) rfl rfl ?_
  exact x_goto rfl k
theorem uX12_begins_26 {d : Nat} {Q : yM → Prop} {M : yM} {x1 : Int} {x2 : Int} (k : XCv d 126 [.inr (.inr 92)] M (fun M' => XW kX12_begins (d + 1) none (wQv Q) 30 [some (.inr (.inr 92)), some (.inl x1), some (.inl x2)] [] M')) : XW kX12_begins (d + 1) none (wQv Q) 26 [some (.inr (.inr 92)), some (.inl x1), some (.inl x2)] [] M := by
  refine x_aload_n rfl rfl ?_
  exact x_callv (args := [.inr (.inr 92)]) rfl rfl rfl k
theorem uX12_begins_30 {d : Nat} {Q : yM → Prop} {M : yM} {x1 : Int} {x2 : Int} (k : XCv d 127 [.inr (.inr 92)] M (fun M' => XW kX12_begins (d + 1) none (wQv Q) 34 [some (.inr (.inr 92)), some (.inl x1), some (.inl x2)] [] M')) : XW kX12_begins (d + 1) none (wQv Q) 30 [some (.inr (.inr 92)), some (.inl x1), some (.inl x2)] [] M := by
  refine x_aload_n rfl rfl ?_
  exact x_callv (args := [.inr (.inr 92)]) rfl rfl rfl k
theorem uX12_begins_34 {d : Nat} {Q : yM → Prop} {M : yM} {x1 : Int} {x2 : Int} (k : XCv d 128 [.inr (.inr 92)] M (fun M' => XW kX12_begins (d + 1) none (wQv Q) 38 [some (.inr (.inr 92)), some (.inl x1), some (.inl x2)] [] M')) : XW kX12_begins (d + 1) none (wQv Q) 34 [some (.inr (.inr 92)), some (.inl x1), some (.inl x2)] [] M := by
  refine x_aload_n rfl rfl ?_
  exact x_callv (args := [.inr (.inr 92)]) rfl rfl rfl k
theorem uX12_begins_38 {d : Nat} {Q : yM → Prop} {M : yM} {x1 : Int} {x2 : Int} (k : Q M) : XW kX12_begins d none (wQv Q) 38 [some (.inr (.inr 92)), some (.inl x1), some (.inl x2)] [] M := by
  exact x_return rfl k
theorem eX12_kinds {d : Nat} {Q : Int → yM → Prop} {M : yM} {x1 : Int}  (h : XW kX12_kinds d (some .int) (wQi Q) 0 [some (.inr (.inr 92)), some (.inl x1), none] [] M) : XCi d 130 [.inr (.inr 92), .inl x1] M Q :=
  XC.ofW (Mm := (yX12_kinds, cX12_kinds, 3, (some .int), 13, kX12_kinds)) rfl (rcv_ok sh92) rfl rfl h
theorem uX12_kinds_0 {d : Nat} {Q : Int → yM → Prop} {M : yM} {x1 : Int} (k : ∀ M', M' = (put M 92 0 0) → XW kX12_kinds d (some .int) (wQi Q) 5 [some (.inr (.inr 92)), some (.inl x1), none] [] M') : XW kX12_kinds d (some .int) (wQi Q) 0 [some (.inr (.inr 92)), some (.inl x1), none] [] M := by
  refine x_aload_n rfl rfl ?_
  refine x_iconst 0 rfl (by decide) ?_
  refine x_putI rfl rfl sh92 rfl ?_
  exact k _ rfl
theorem uX12_kinds_5 {d : Nat} {Q : Int → yM → Prop} {M : yM} {x1 : Int} (k : XCi d 120 [.inl x1, .inl 1, .inl 8] M (fun v M' => XW kX12_kinds (d + 1) (some .int) (wQi Q) 12 [some (.inr (.inr 92)), some (.inl x1), none] [.inl v] M')) : XW kX12_kinds (d + 1) (some .int) (wQi Q) 5 [some (.inr (.inr 92)), some (.inl x1), none] [] M := by
  refine x_iload_n rfl rfl ?_
  refine x_iconst 1 rfl (by decide) ?_
  refine x_bipush 8 rfl (by decide) ?_
  exact x_calli (args := [.inl x1, .inl 1, .inl 8]) rfl rfl rfl k
theorem uX12_kinds_12 {d : Nat} {Q : Int → yM → Prop} {M : yM} {x1 : Int} {s0 : Int} (h1 : -2147483648 ≤ s0 ∧ s0 < 2147483648) (kt : s0 ≠ 0 → XW kX12_kinds d (some .int) (wQi Q) 17 [some (.inr (.inr 92)), some (.inl x1), none] [] M) (kf : s0 = 0 → XW kX12_kinds d (some .int) (wQi Q) 15 [some (.inr (.inr 92)), some (.inl x1), none] [] M) : XW kX12_kinds d (some .int) (wQi Q) 12 [some (.inr (.inr 92)), some (.inl x1), none] [.inl s0] M := by
  exact x_ifne rfl h1 kt kf
theorem uX12_kinds_15 {d : Nat} {Q : Int → yM → Prop} {M : yM} {x1 : Int} (k : Q (-1) M) : XW kX12_kinds d (some .int) (wQi Q) 15 [some (.inr (.inr 92)), some (.inl x1), none] [] M := by
  refine x_iconst (-1) rfl (by decide) ?_
  exact x_ireturn rfl k
theorem uX12_kinds_17 {d : Nat} {Q : Int → yM → Prop} {M : yM} {x1 : Int} (k : XCv d 129 [.inr (.inr 92), .inl x1] M (fun M' => XW kX12_kinds (d + 1) (some .int) (wQi Q) 27 [some (.inr (.inr 92)), some (.inl x1), some (.inl (ld M 92 2))] [] M')) : XW kX12_kinds (d + 1) (some .int) (wQi Q) 17 [some (.inr (.inr 92)), some (.inl x1), none] [] M := by
  refine x_aload_n rfl rfl ?_
  refine x_getI rfl sh92 rfl ?_
  refine x_istore_n rfl (Nat.le_of_ble_eq_true rfl) rfl ?_
  refine x_aload_n rfl rfl ?_
  refine x_iload_n rfl rfl ?_
  exact x_callv (args := [.inr (.inr 92), .inl x1]) rfl rfl rfl k
theorem uX12_kinds_27 {d : Nat} {Q : Int → yM → Prop} {M : yM} {x1 : Int} {x2 : Int} (k : Q x2 M) : XW kX12_kinds d (some .int) (wQi Q) 27 [some (.inr (.inr 92)), some (.inl x1), some (.inl x2)] [] M := by
  refine x_iload_n rfl rfl ?_
  exact x_ireturn rfl k
theorem eX12_turn {d : Nat} {Q : Int → yM → Prop} {M : yM} {x1 : Int} {x2 : Int}  (h : XW kX12_turn d (some .int) (wQi Q) 0 [some (.inr (.inr 92)), some (.inl x1), some (.inl x2)] [] M) : XCi d 131 [.inr (.inr 92), .inl x1, .inl x2] M Q :=
  XC.ofW (Mm := (yX12_turn, cX12_turn, 3, (some .int), 13, kX12_turn)) rfl (rcv_ok sh92) rfl rfl h
theorem uX12_turn_0 {d : Nat} {Q : Int → yM → Prop} {M : yM} {x1 : Int} {x2 : Int} (k : ∀ M', M' = (put M 92 0 0) → XW kX12_turn d (some .int) (wQi Q) 5 [some (.inr (.inr 92)), some (.inl x1), some (.inl x2)] [] M') : XW kX12_turn d (some .int) (wQi Q) 0 [some (.inr (.inr 92)), some (.inl x1), some (.inl x2)] [] M := by
  refine x_aload_n rfl rfl ?_
  refine x_iconst 0 rfl (by decide) ?_
  refine x_putI rfl rfl sh92 rfl ?_
  exact k _ rfl
theorem uX12_turn_5 {d : Nat} {Q : Int → yM → Prop} {M : yM} {x1 : Int} {x2 : Int} (k : XCi d 122 [.inr (.inr 92), .inl x1] M (fun v M' => XW kX12_turn (d + 1) (some .int) (wQi Q) 10 [some (.inr (.inr 92)), some (.inl x1), some (.inl x2)] [.inl v] M')) : XW kX12_turn (d + 1) (some .int) (wQi Q) 5 [some (.inr (.inr 92)), some (.inl x1), some (.inl x2)] [] M := by
  refine x_aload_n rfl rfl ?_
  refine x_iload_n rfl rfl ?_
  exact x_calli (args := [.inr (.inr 92), .inl x1]) rfl rfl rfl k
theorem uX12_turn_10 {d : Nat} {Q : Int → yM → Prop} {M : yM} {x1 : Int} {x2 : Int} {s0 : Int} (h1 : -2147483648 ≤ s0 ∧ s0 < 2147483648) (kt : s0 = 0 → XW kX12_turn d (some .int) (wQi Q) 21 [some (.inr (.inr 92)), some (.inl x1), some (.inl x2)] [] M) (kf : s0 ≠ 0 → XW kX12_turn d (some .int) (wQi Q) 13 [some (.inr (.inr 92)), some (.inl x1), some (.inl x2)] [] M) : XW kX12_turn d (some .int) (wQi Q) 10 [some (.inr (.inr 92)), some (.inl x1), some (.inl x2)] [.inl s0] M := by
  exact x_ifeq rfl h1 kt kf
theorem uX12_turn_13 {d : Nat} {Q : Int → yM → Prop} {M : yM} {x1 : Int} {x2 : Int} (k : XCi d 122 [.inr (.inr 92), .inl x2] M (fun v M' => XW kX12_turn (d + 1) (some .int) (wQi Q) 18 [some (.inr (.inr 92)), some (.inl x1), some (.inl x2)] [.inl v] M')) : XW kX12_turn (d + 1) (some .int) (wQi Q) 13 [some (.inr (.inr 92)), some (.inl x1), some (.inl x2)] [] M := by
  refine x_aload_n rfl rfl ?_
  refine x_iload_n rfl rfl ?_
  exact x_calli (args := [.inr (.inr 92), .inl x2]) rfl rfl rfl k
theorem uX12_turn_18 {d : Nat} {Q : Int → yM → Prop} {M : yM} {x1 : Int} {x2 : Int} {s0 : Int} (h1 : -2147483648 ≤ s0 ∧ s0 < 2147483648) (kt : s0 ≠ 0 → XW kX12_turn d (some .int) (wQi Q) 23 [some (.inr (.inr 92)), some (.inl x1), some (.inl x2)] [] M) (kf : s0 = 0 → XW kX12_turn d (some .int) (wQi Q) 21 [some (.inr (.inr 92)), some (.inl x1), some (.inl x2)] [] M) : XW kX12_turn d (some .int) (wQi Q) 18 [some (.inr (.inr 92)), some (.inl x1), some (.inl x2)] [.inl s0] M := by
  exact x_ifne rfl h1 kt kf
theorem uX12_turn_21 {d : Nat} {Q : Int → yM → Prop} {M : yM} {x1 : Int} {x2 : Int} (k : Q (-1) M) : XW kX12_turn d (some .int) (wQi Q) 21 [some (.inr (.inr 92)), some (.inl x1), some (.inl x2)] [] M := by
  refine x_iconst (-1) rfl (by decide) ?_
  exact x_ireturn rfl k
theorem uX12_turn_23 {d : Nat} {Q : Int → yM → Prop} {M : yM} {x1 : Int} {x2 : Int} (h1 : 0 ≤ x1 ∧ x1 < 8) (h2 : 0 ≤ x1 ∧ x1 < 8) (h3 : 0 ≤ (ld M 93 x1) ∧ (ld M 93 x1) < 8) (k : ∀ M', M' = (put M 93 (ld M 93 x1) (ld M 93 x1)) → XW kX12_turn d (some .int) (wQi Q) 40 [some (.inr (.inr 92)), some (.inl x1), some (.inl x2)] [] M') : XW kX12_turn d (some .int) (wQi Q) 23 [some (.inr (.inr 92)), some (.inl x1), some (.inl x2)] [] M := by
  refine x_aload_n rfl rfl ?_
  refine x_getR rfl sh92 rfl ?_
  refine x_aload_n rfl rfl ?_
  refine x_getR rfl sh92 rfl ?_
  refine x_iload_n rfl rfl ?_
  refine x_iaload rfl ⟨sh93, Nat.le_of_ble_eq_true rfl⟩ h1 ?_
  refine x_aload_n rfl rfl ?_
  refine x_getR rfl sh92 rfl ?_
  refine x_iload_n rfl rfl ?_
  refine x_iaload rfl ⟨sh93, Nat.le_of_ble_eq_true rfl⟩ h2 ?_
  refine x_iastore rfl ⟨sh93, Nat.le_of_ble_eq_true rfl⟩ h3  ?_
  exact k _ rfl
theorem uX12_turn_40 {d : Nat} {Q : Int → yM → Prop} {M : yM} {x1 : Int} {x2 : Int} (h1 : 0 ≤ x2 ∧ x2 < 8) (h2 : 0 ≤ x2 ∧ x2 < 8) (h3 : 0 ≤ (ld M 93 x2) ∧ (ld M 93 x2) < 8) (k : ∀ M', M' = (put M 93 (ld M 93 x2) (ld M 93 x2)) → XW kX12_turn d (some .int) (wQi Q) 57 [some (.inr (.inr 92)), some (.inl x1), some (.inl x2)] [] M') : XW kX12_turn d (some .int) (wQi Q) 40 [some (.inr (.inr 92)), some (.inl x1), some (.inl x2)] [] M := by
  refine x_aload_n rfl rfl ?_
  refine x_getR rfl sh92 rfl ?_
  refine x_aload_n rfl rfl ?_
  refine x_getR rfl sh92 rfl ?_
  refine x_iload_n rfl rfl ?_
  refine x_iaload rfl ⟨sh93, Nat.le_of_ble_eq_true rfl⟩ h1 ?_
  refine x_aload_n rfl rfl ?_
  refine x_getR rfl sh92 rfl ?_
  refine x_iload_n rfl rfl ?_
  refine x_iaload rfl ⟨sh93, Nat.le_of_ble_eq_true rfl⟩ h2 ?_
  refine x_iastore rfl ⟨sh93, Nat.le_of_ble_eq_true rfl⟩ h3  ?_
  exact k _ rfl
theorem uX12_turn_57 {d : Nat} {Q : Int → yM → Prop} {M : yM} {x1 : Int} {x2 : Int} (h1 : 0 ≤ x1 ∧ x1 < 8) (k : ∀ M', M' = (put M 93 x1 x2) → XW kX12_turn d (some .int) (wQi Q) 64 [some (.inr (.inr 92)), some (.inl x1), some (.inl x2)] [] M') : XW kX12_turn d (some .int) (wQi Q) 57 [some (.inr (.inr 92)), some (.inl x1), some (.inl x2)] [] M := by
  refine x_aload_n rfl rfl ?_
  refine x_getR rfl sh92 rfl ?_
  refine x_iload_n rfl rfl ?_
  refine x_iload_n rfl rfl ?_
  refine x_iastore rfl ⟨sh93, Nat.le_of_ble_eq_true rfl⟩ h1  ?_
  exact k _ rfl
theorem uX12_turn_64 {d : Nat} {Q : Int → yM → Prop} {M : yM} {x1 : Int} {x2 : Int} (h1 : 0 ≤ x2 ∧ x2 < 8) (k : ∀ M', M' = (put M 93 x2 x1) → XW kX12_turn d (some .int) (wQi Q) 71 [some (.inr (.inr 92)), some (.inl x1), some (.inl x2)] [] M') : XW kX12_turn d (some .int) (wQi Q) 64 [some (.inr (.inr 92)), some (.inl x1), some (.inl x2)] [] M := by
  refine x_aload_n rfl rfl ?_
  refine x_getR rfl sh92 rfl ?_
  refine x_iload_n rfl rfl ?_
  refine x_iload_n rfl rfl ?_
  refine x_iastore rfl ⟨sh93, Nat.le_of_ble_eq_true rfl⟩ h1  ?_
  exact k _ rfl
theorem uX12_turn_71 {d : Nat} {Q : Int → yM → Prop} {M : yM} {x1 : Int} {x2 : Int} (k : XCv d 126 [.inr (.inr 92)] M (fun M' => XW kX12_turn (d + 1) (some .int) (wQi Q) 75 [some (.inr (.inr 92)), some (.inl x1), some (.inl x2)] [] M')) : XW kX12_turn (d + 1) (some .int) (wQi Q) 71 [some (.inr (.inr 92)), some (.inl x1), some (.inl x2)] [] M := by
  refine x_aload_n rfl rfl ?_
  exact x_callv (args := [.inr (.inr 92)]) rfl rfl rfl k
theorem uX12_turn_75 {d : Nat} {Q : Int → yM → Prop} {M : yM} {x1 : Int} {x2 : Int} (k : XCv d 127 [.inr (.inr 92)] M (fun M' => XW kX12_turn (d + 1) (some .int) (wQi Q) 79 [some (.inr (.inr 92)), some (.inl x1), some (.inl x2)] [] M')) : XW kX12_turn (d + 1) (some .int) (wQi Q) 75 [some (.inr (.inr 92)), some (.inl x1), some (.inl x2)] [] M := by
  refine x_aload_n rfl rfl ?_
  exact x_callv (args := [.inr (.inr 92)]) rfl rfl rfl k
theorem uX12_turn_79 {d : Nat} {Q : Int → yM → Prop} {M : yM} {x1 : Int} {x2 : Int} (k : Q 1 M) : XW kX12_turn d (some .int) (wQi Q) 79 [some (.inr (.inr 92)), some (.inl x1), some (.inl x2)] [] M := by
  refine x_iconst 1 rfl (by decide) ?_
  exact x_ireturn rfl k
theorem eX12_marks {d : Nat} {Q : yM → Prop} {M : yM} {x1 : Int} {x2 : Int} {x3 : Int} {x4 : Int}  (h : XW kX12_marks d none (wQv Q) 0 [some (.inr (.inr 92)), some (.inl x1), some (.inl x2), some (.inl x3), some (.inl x4), none] [] M) : XCv d 132 [.inr (.inr 92), .inl x1, .inl x2, .inl x3, .inl x4] M Q :=
  XC.ofW (Mm := (yX12_marks, cX12_marks, 6, none, 13, kX12_marks)) rfl (rcv_ok sh92) rfl rfl h
theorem uX12_marks_0 {d : Nat} {Q : yM → Prop} {M : yM} {x1 : Int} {x2 : Int} {x3 : Int} {x4 : Int} (h1 : 0 ≤ ((8 * x1) + x2) ∧ ((8 * x1) + x2) < 64) (h2 : 0 ≤ ((8 * x1) + x2) ∧ ((8 * x1) + x2) < 64) (k : ∀ M', M' = (put M 94 ((8 * x1) + x2) (yor (yand (ld M 94 ((8 * x1) + x2)) (yxor (yshl 1 x3) (-1))) (yshl x4 x3))) → XW kX12_marks d none (wQv Q) 33 [some (.inr (.inr 92)), some (.inl x1), some (.inl x2), some (.inl x3), some (.inl x4), some (.inl ((8 * x1) + x2))] [] M') : XW kX12_marks d none (wQv Q) 0 [some (.inr (.inr 92)), some (.inl x1), some (.inl x2), some (.inl x3), some (.inl x4), none] [] M := by
  refine x_bipush 8 rfl (by decide) ?_
  refine x_iload_n rfl rfl ?_
  refine x_imul rfl ?_
  refine x_iload_n rfl rfl ?_
  refine x_iadd rfl ?_
  refine x_istore rfl (Nat.le_of_ble_eq_true rfl) rfl ?_
  refine x_aload_n rfl rfl ?_
  refine x_getR rfl sh92 rfl ?_
  refine x_iload rfl rfl ?_
  refine x_aload_n rfl rfl ?_
  refine x_getR rfl sh92 rfl ?_
  refine x_iload rfl rfl ?_
  refine x_iaload rfl ⟨sh94, Nat.le_of_ble_eq_true rfl⟩ h1 ?_
  refine x_iconst 1 rfl (by decide) ?_
  refine x_iload_n rfl rfl ?_
  refine x_ishl rfl ?_
  refine x_iconst (-1) rfl (by decide) ?_
  refine x_ixor rfl ?_
  refine x_iand rfl ?_
  refine x_iload rfl rfl ?_
  refine x_iload_n rfl rfl ?_
  refine x_ishl rfl ?_
  refine x_ior rfl ?_
  refine x_iastore rfl ⟨sh94, Nat.le_of_ble_eq_true rfl⟩ h2  ?_
  exact k _ rfl
theorem uX12_marks_33 {d : Nat} {Q : yM → Prop} {M : yM} {x1 : Int} {x2 : Int} {x3 : Int} {x4 : Int} {x5 : Int} (k : Q M) : XW kX12_marks d none (wQv Q) 33 [some (.inr (.inr 92)), some (.inl x1), some (.inl x2), some (.inl x3), some (.inl x4), some (.inl x5)] [] M := by
  exact x_return rfl k
theorem eX12_triangle {d : Nat} {Q : Int → yM → Prop} {M : yM} {x1 : Int} {x2 : Int} {x3 : Int} {x4 : Int}  (h : XW kX12_triangle d (some .int) (wQi Q) 0 [some (.inr (.inr 92)), some (.inl x1), some (.inl x2), some (.inl x3), some (.inl x4), none, none, none, none] [] M) : XCi d 133 [.inr (.inr 92), .inl x1, .inl x2, .inl x3, .inl x4] M Q :=
  XC.ofW (Mm := (yX12_triangle, cX12_triangle, 9, (some .int), 13, kX12_triangle)) rfl (rcv_ok sh92) rfl rfl h
theorem uX12_triangle_0 {d : Nat} {Q : Int → yM → Prop} {M : yM} {x1 : Int} {x2 : Int} {x3 : Int} {x4 : Int} (k : ∀ M', M' = (put M 92 0 0) → XW kX12_triangle d (some .int) (wQi Q) 5 [some (.inr (.inr 92)), some (.inl x1), some (.inl x2), some (.inl x3), some (.inl x4), none, none, none, none] [] M') : XW kX12_triangle d (some .int) (wQi Q) 0 [some (.inr (.inr 92)), some (.inl x1), some (.inl x2), some (.inl x3), some (.inl x4), none, none, none, none] [] M := by
  refine x_aload_n rfl rfl ?_
  refine x_iconst 0 rfl (by decide) ?_
  refine x_putI rfl rfl sh92 rfl ?_
  exact k _ rfl
theorem uX12_triangle_5 {d : Nat} {Q : Int → yM → Prop} {M : yM} {x1 : Int} {x2 : Int} {x3 : Int} {x4 : Int} (k : XCi d 122 [.inr (.inr 92), .inl x1] M (fun v M' => XW kX12_triangle (d + 1) (some .int) (wQi Q) 10 [some (.inr (.inr 92)), some (.inl x1), some (.inl x2), some (.inl x3), some (.inl x4), none, none, none, none] [.inl v] M')) : XW kX12_triangle (d + 1) (some .int) (wQi Q) 5 [some (.inr (.inr 92)), some (.inl x1), some (.inl x2), some (.inl x3), some (.inl x4), none, none, none, none] [] M := by
  refine x_aload_n rfl rfl ?_
  refine x_iload_n rfl rfl ?_
  exact x_calli (args := [.inr (.inr 92), .inl x1]) rfl rfl rfl k
theorem uX12_triangle_10 {d : Nat} {Q : Int → yM → Prop} {M : yM} {x1 : Int} {x2 : Int} {x3 : Int} {x4 : Int} {s0 : Int} (h1 : -2147483648 ≤ s0 ∧ s0 < 2147483648) (kt : s0 = 0 → XW kX12_triangle d (some .int) (wQi Q) 39 [some (.inr (.inr 92)), some (.inl x1), some (.inl x2), some (.inl x3), some (.inl x4), none, none, none, none] [] M) (kf : s0 ≠ 0 → XW kX12_triangle d (some .int) (wQi Q) 13 [some (.inr (.inr 92)), some (.inl x1), some (.inl x2), some (.inl x3), some (.inl x4), none, none, none, none] [] M) : XW kX12_triangle d (some .int) (wQi Q) 10 [some (.inr (.inr 92)), some (.inl x1), some (.inl x2), some (.inl x3), some (.inl x4), none, none, none, none] [.inl s0] M := by
  exact x_ifeq rfl h1 kt kf
theorem uX12_triangle_13 {d : Nat} {Q : Int → yM → Prop} {M : yM} {x1 : Int} {x2 : Int} {x3 : Int} {x4 : Int} (k : XCi d 122 [.inr (.inr 92), .inl x2] M (fun v M' => XW kX12_triangle (d + 1) (some .int) (wQi Q) 18 [some (.inr (.inr 92)), some (.inl x1), some (.inl x2), some (.inl x3), some (.inl x4), none, none, none, none] [.inl v] M')) : XW kX12_triangle (d + 1) (some .int) (wQi Q) 13 [some (.inr (.inr 92)), some (.inl x1), some (.inl x2), some (.inl x3), some (.inl x4), none, none, none, none] [] M := by
  refine x_aload_n rfl rfl ?_
  refine x_iload_n rfl rfl ?_
  exact x_calli (args := [.inr (.inr 92), .inl x2]) rfl rfl rfl k
theorem uX12_triangle_18 {d : Nat} {Q : Int → yM → Prop} {M : yM} {x1 : Int} {x2 : Int} {x3 : Int} {x4 : Int} {s0 : Int} (h1 : -2147483648 ≤ s0 ∧ s0 < 2147483648) (kt : s0 = 0 → XW kX12_triangle d (some .int) (wQi Q) 39 [some (.inr (.inr 92)), some (.inl x1), some (.inl x2), some (.inl x3), some (.inl x4), none, none, none, none] [] M) (kf : s0 ≠ 0 → XW kX12_triangle d (some .int) (wQi Q) 21 [some (.inr (.inr 92)), some (.inl x1), some (.inl x2), some (.inl x3), some (.inl x4), none, none, none, none] [] M) : XW kX12_triangle d (some .int) (wQi Q) 18 [some (.inr (.inr 92)), some (.inl x1), some (.inl x2), some (.inl x3), some (.inl x4), none, none, none, none] [.inl s0] M := by
  exact x_ifeq rfl h1 kt kf
theorem uX12_triangle_21 {d : Nat} {Q : Int → yM → Prop} {M : yM} {x1 : Int} {x2 : Int} {x3 : Int} {x4 : Int} (k : XCi d 122 [.inr (.inr 92), .inl x3] M (fun v M' => XW kX12_triangle (d + 1) (some .int) (wQi Q) 26 [some (.inr (.inr 92)), some (.inl x1), some (.inl x2), some (.inl x3), some (.inl x4), none, none, none, none] [.inl v] M')) : XW kX12_triangle (d + 1) (some .int) (wQi Q) 21 [some (.inr (.inr 92)), some (.inl x1), some (.inl x2), some (.inl x3), some (.inl x4), none, none, none, none] [] M := by
  refine x_aload_n rfl rfl ?_
  refine x_iload_n rfl rfl ?_
  exact x_calli (args := [.inr (.inr 92), .inl x3]) rfl rfl rfl k
theorem uX12_triangle_26 {d : Nat} {Q : Int → yM → Prop} {M : yM} {x1 : Int} {x2 : Int} {x3 : Int} {x4 : Int} {s0 : Int} (h1 : -2147483648 ≤ s0 ∧ s0 < 2147483648) (kt : s0 = 0 → XW kX12_triangle d (some .int) (wQi Q) 39 [some (.inr (.inr 92)), some (.inl x1), some (.inl x2), some (.inl x3), some (.inl x4), none, none, none, none] [] M) (kf : s0 ≠ 0 → XW kX12_triangle d (some .int) (wQi Q) 29 [some (.inr (.inr 92)), some (.inl x1), some (.inl x2), some (.inl x3), some (.inl x4), none, none, none, none] [] M) : XW kX12_triangle d (some .int) (wQi Q) 26 [some (.inr (.inr 92)), some (.inl x1), some (.inl x2), some (.inl x3), some (.inl x4), none, none, none, none] [.inl s0] M := by
  exact x_ifeq rfl h1 kt kf
theorem uX12_triangle_29 {d : Nat} {Q : Int → yM → Prop} {M : yM} {x1 : Int} {x2 : Int} {x3 : Int} {x4 : Int} (k : XCi d 120 [.inl x4, .inl 0, .inl 1] M (fun v M' => XW kX12_triangle (d + 1) (some .int) (wQi Q) 36 [some (.inr (.inr 92)), some (.inl x1), some (.inl x2), some (.inl x3), some (.inl x4), none, none, none, none] [.inl v] M')) : XW kX12_triangle (d + 1) (some .int) (wQi Q) 29 [some (.inr (.inr 92)), some (.inl x1), some (.inl x2), some (.inl x3), some (.inl x4), none, none, none, none] [] M := by
  refine x_iload rfl rfl ?_
  refine x_iconst 0 rfl (by decide) ?_
  refine x_iconst 1 rfl (by decide) ?_
  exact x_calli (args := [.inl x4, .inl 0, .inl 1]) rfl rfl rfl k
theorem uX12_triangle_36 {d : Nat} {Q : Int → yM → Prop} {M : yM} {x1 : Int} {x2 : Int} {x3 : Int} {x4 : Int} {s0 : Int} (h1 : -2147483648 ≤ s0 ∧ s0 < 2147483648) (kt : s0 ≠ 0 → XW kX12_triangle d (some .int) (wQi Q) 41 [some (.inr (.inr 92)), some (.inl x1), some (.inl x2), some (.inl x3), some (.inl x4), none, none, none, none] [] M) (kf : s0 = 0 → XW kX12_triangle d (some .int) (wQi Q) 39 [some (.inr (.inr 92)), some (.inl x1), some (.inl x2), some (.inl x3), some (.inl x4), none, none, none, none] [] M) : XW kX12_triangle d (some .int) (wQi Q) 36 [some (.inr (.inr 92)), some (.inl x1), some (.inl x2), some (.inl x3), some (.inl x4), none, none, none, none] [.inl s0] M := by
  exact x_ifne rfl h1 kt kf
theorem uX12_triangle_39 {d : Nat} {Q : Int → yM → Prop} {M : yM} {x1 : Int} {x2 : Int} {x3 : Int} {x4 : Int} (k : Q (-1) M) : XW kX12_triangle d (some .int) (wQi Q) 39 [some (.inr (.inr 92)), some (.inl x1), some (.inl x2), some (.inl x3), some (.inl x4), none, none, none, none] [] M := by
  refine x_iconst (-1) rfl (by decide) ?_
  exact x_ireturn rfl k
theorem uX12_triangle_41 {d : Nat} {Q : Int → yM → Prop} {M : yM} {x1 : Int} {x2 : Int} {x3 : Int} {x4 : Int} (k : XCi d 125 [.inr (.inr 92), .inl x1, .inl x2, .inl x3] M (fun v M' => XW kX12_triangle (d + 1) (some .int) (wQi Q) 48 [some (.inr (.inr 92)), some (.inl x1), some (.inl x2), some (.inl x3), some (.inl x4), none, none, none, none] [.inl v] M')) : XW kX12_triangle (d + 1) (some .int) (wQi Q) 41 [some (.inr (.inr 92)), some (.inl x1), some (.inl x2), some (.inl x3), some (.inl x4), none, none, none, none] [] M := by
  refine x_aload_n rfl rfl ?_
  refine x_iload_n rfl rfl ?_
  refine x_iload_n rfl rfl ?_
  refine x_iload_n rfl rfl ?_
  exact x_calli (args := [.inr (.inr 92), .inl x1, .inl x2, .inl x3]) rfl rfl rfl k
theorem uX12_triangle_48 {d : Nat} {Q : Int → yM → Prop} {M : yM} {x1 : Int} {x2 : Int} {x3 : Int} {x4 : Int} {s0 : Int} (h1 : -2147483648 ≤ s0 ∧ s0 < 2147483648) (kt : s0 = 0 → XW kX12_triangle d (some .int) (wQi Q) 55 [some (.inr (.inr 92)), some (.inl x1), some (.inl x2), some (.inl x3), some (.inl x4), none, none, none, none] [] M) (kf : s0 ≠ 0 → XW kX12_triangle d (some .int) (wQi Q) 51 [some (.inr (.inr 92)), some (.inl x1), some (.inl x2), some (.inl x3), some (.inl x4), none, none, none, none] [] M) : XW kX12_triangle d (some .int) (wQi Q) 48 [some (.inr (.inr 92)), some (.inl x1), some (.inl x2), some (.inl x3), some (.inl x4), none, none, none, none] [.inl s0] M := by
  exact x_ifeq rfl h1 kt kf
theorem uX12_triangle_51 {d : Nat} {Q : Int → yM → Prop} {M : yM} {x1 : Int} {x2 : Int} {x3 : Int} {x4 : Int} (k : XW kX12_triangle d (some .int) (wQi Q) 56 [some (.inr (.inr 92)), some (.inl x1), some (.inl x2), some (.inl x3), some (.inl x4), none, none, none, none] [.inl 1] M) : XW kX12_triangle d (some .int) (wQi Q) 51 [some (.inr (.inr 92)), some (.inl x1), some (.inl x2), some (.inl x3), some (.inl x4), none, none, none, none] [] M := by
  refine x_iconst 1 rfl (by decide) ?_
  exact x_goto rfl k
theorem uX12_triangle_55 {d : Nat} {Q : Int → yM → Prop} {M : yM} {x1 : Int} {x2 : Int} {x3 : Int} {x4 : Int} (k : XW kX12_triangle d (some .int) (wQi Q) 56 [some (.inr (.inr 92)), some (.inl x1), some (.inl x2), some (.inl x3), some (.inl x4), none, none, none, none] [.inl 0] M) : XW kX12_triangle d (some .int) (wQi Q) 55 [some (.inr (.inr 92)), some (.inl x1), some (.inl x2), some (.inl x3), some (.inl x4), none, none, none, none] [] M := by
  refine x_iconst 0 rfl (by decide) ?_
  exact k
theorem uX12_triangle_56 {d : Nat} {Q : Int → yM → Prop} {M : yM} {x1 : Int} {x2 : Int} {x3 : Int} {x4 : Int} {s0 : Int} (h1 : 0 ≤ x1 ∧ x1 < 8) (h2 : 0 ≤ x2 ∧ x2 < 8) (h3 : 0 ≤ x3 ∧ x3 < 8) (k : XCv d 132 [.inr (.inr 92), .inl x1, .inl x2, .inl x3, .inl x4] M (fun M' => XW kX12_triangle (d + 1) (some .int) (wQi Q) 91 [some (.inr (.inr 92)), some (.inl x1), some (.inl x2), some (.inl x3), some (.inl x4), some (.inl s0), some (.inl (ld M 93 x1)), some (.inl (ld M 93 x2)), some (.inl (ld M 93 x3))] [] M')) : XW kX12_triangle (d + 1) (some .int) (wQi Q) 56 [some (.inr (.inr 92)), some (.inl x1), some (.inl x2), some (.inl x3), some (.inl x4), none, none, none, none] [.inl s0] M := by
  refine x_istore rfl (Nat.le_of_ble_eq_true rfl) rfl ?_
  refine x_aload_n rfl rfl ?_
  refine x_getR rfl sh92 rfl ?_
  refine x_iload_n rfl rfl ?_
  refine x_iaload rfl ⟨sh93, Nat.le_of_ble_eq_true rfl⟩ h1 ?_
  refine x_istore rfl (Nat.le_of_ble_eq_true rfl) rfl ?_
  refine x_aload_n rfl rfl ?_
  refine x_getR rfl sh92 rfl ?_
  refine x_iload_n rfl rfl ?_
  refine x_iaload rfl ⟨sh93, Nat.le_of_ble_eq_true rfl⟩ h2 ?_
  refine x_istore rfl (Nat.le_of_ble_eq_true rfl) rfl ?_
  refine x_aload_n rfl rfl ?_
  refine x_getR rfl sh92 rfl ?_
  refine x_iload_n rfl rfl ?_
  refine x_iaload rfl ⟨sh93, Nat.le_of_ble_eq_true rfl⟩ h3 ?_
  refine x_istore rfl (Nat.le_of_ble_eq_true rfl) rfl ?_
  refine x_aload_n rfl rfl ?_
  refine x_iload_n rfl rfl ?_
  refine x_iload_n rfl rfl ?_
  refine x_iload_n rfl rfl ?_
  refine x_iload rfl rfl ?_
  exact x_callv (args := [.inr (.inr 92), .inl x1, .inl x2, .inl x3, .inl x4]) rfl rfl rfl k
theorem uX12_triangle_91 {d : Nat} {Q : Int → yM → Prop} {M : yM} {x1 : Int} {x2 : Int} {x3 : Int} {x4 : Int} {x5 : Int} {x6 : Int} {x7 : Int} {x8 : Int} (k : XCv d 132 [.inr (.inr 92), .inl x3, .inl x7, .inl x1, .inl x4] M (fun M' => XW kX12_triangle (d + 1) (some .int) (wQi Q) 101 [some (.inr (.inr 92)), some (.inl x1), some (.inl x2), some (.inl x3), some (.inl x4), some (.inl x5), some (.inl x6), some (.inl x7), some (.inl x8)] [] M')) : XW kX12_triangle (d + 1) (some .int) (wQi Q) 91 [some (.inr (.inr 92)), some (.inl x1), some (.inl x2), some (.inl x3), some (.inl x4), some (.inl x5), some (.inl x6), some (.inl x7), some (.inl x8)] [] M := by
  refine x_aload_n rfl rfl ?_
  refine x_iload_n rfl rfl ?_
  refine x_iload rfl rfl ?_
  refine x_iload_n rfl rfl ?_
  refine x_iload rfl rfl ?_
  exact x_callv (args := [.inr (.inr 92), .inl x3, .inl x7, .inl x1, .inl x4]) rfl rfl rfl k
theorem uX12_triangle_101 {d : Nat} {Q : Int → yM → Prop} {M : yM} {x1 : Int} {x2 : Int} {x3 : Int} {x4 : Int} {x5 : Int} {x6 : Int} {x7 : Int} {x8 : Int} (k : XCv d 132 [.inr (.inr 92), .inl x6, .inl x3, .inl x2, .inl x4] M (fun M' => XW kX12_triangle (d + 1) (some .int) (wQi Q) 111 [some (.inr (.inr 92)), some (.inl x1), some (.inl x2), some (.inl x3), some (.inl x4), some (.inl x5), some (.inl x6), some (.inl x7), some (.inl x8)] [] M')) : XW kX12_triangle (d + 1) (some .int) (wQi Q) 101 [some (.inr (.inr 92)), some (.inl x1), some (.inl x2), some (.inl x3), some (.inl x4), some (.inl x5), some (.inl x6), some (.inl x7), some (.inl x8)] [] M := by
  refine x_aload_n rfl rfl ?_
  refine x_iload rfl rfl ?_
  refine x_iload_n rfl rfl ?_
  refine x_iload_n rfl rfl ?_
  refine x_iload rfl rfl ?_
  exact x_callv (args := [.inr (.inr 92), .inl x6, .inl x3, .inl x2, .inl x4]) rfl rfl rfl k
theorem uX12_triangle_111 {d : Nat} {Q : Int → yM → Prop} {M : yM} {x1 : Int} {x2 : Int} {x3 : Int} {x4 : Int} {x5 : Int} {x6 : Int} {x7 : Int} {x8 : Int} (k : XCv d 132 [.inr (.inr 92), .inl x2, .inl x8, .inl x6, .inl x4] M (fun M' => XW kX12_triangle (d + 1) (some .int) (wQi Q) 122 [some (.inr (.inr 92)), some (.inl x1), some (.inl x2), some (.inl x3), some (.inl x4), some (.inl x5), some (.inl x6), some (.inl x7), some (.inl x8)] [] M')) : XW kX12_triangle (d + 1) (some .int) (wQi Q) 111 [some (.inr (.inr 92)), some (.inl x1), some (.inl x2), some (.inl x3), some (.inl x4), some (.inl x5), some (.inl x6), some (.inl x7), some (.inl x8)] [] M := by
  refine x_aload_n rfl rfl ?_
  refine x_iload_n rfl rfl ?_
  refine x_iload rfl rfl ?_
  refine x_iload rfl rfl ?_
  refine x_iload rfl rfl ?_
  exact x_callv (args := [.inr (.inr 92), .inl x2, .inl x8, .inl x6, .inl x4]) rfl rfl rfl k
theorem uX12_triangle_122 {d : Nat} {Q : Int → yM → Prop} {M : yM} {x1 : Int} {x2 : Int} {x3 : Int} {x4 : Int} {x5 : Int} {x6 : Int} {x7 : Int} {x8 : Int} (k : XCv d 132 [.inr (.inr 92), .inl x8, .inl x1, .inl x7, .inl x4] M (fun M' => XW kX12_triangle (d + 1) (some .int) (wQi Q) 133 [some (.inr (.inr 92)), some (.inl x1), some (.inl x2), some (.inl x3), some (.inl x4), some (.inl x5), some (.inl x6), some (.inl x7), some (.inl x8)] [] M')) : XW kX12_triangle (d + 1) (some .int) (wQi Q) 122 [some (.inr (.inr 92)), some (.inl x1), some (.inl x2), some (.inl x3), some (.inl x4), some (.inl x5), some (.inl x6), some (.inl x7), some (.inl x8)] [] M := by
  refine x_aload_n rfl rfl ?_
  refine x_iload rfl rfl ?_
  refine x_iload_n rfl rfl ?_
  refine x_iload rfl rfl ?_
  refine x_iload rfl rfl ?_
  exact x_callv (args := [.inr (.inr 92), .inl x8, .inl x1, .inl x7, .inl x4]) rfl rfl rfl k
theorem uX12_triangle_133 {d : Nat} {Q : Int → yM → Prop} {M : yM} {x1 : Int} {x2 : Int} {x3 : Int} {x4 : Int} {x5 : Int} {x6 : Int} {x7 : Int} {x8 : Int} (k : XCv d 132 [.inr (.inr 92), .inl x7, .inl x6, .inl x8, .inl x4] M (fun M' => XW kX12_triangle (d + 1) (some .int) (wQi Q) 145 [some (.inr (.inr 92)), some (.inl x1), some (.inl x2), some (.inl x3), some (.inl x4), some (.inl x5), some (.inl x6), some (.inl x7), some (.inl x8)] [] M')) : XW kX12_triangle (d + 1) (some .int) (wQi Q) 133 [some (.inr (.inr 92)), some (.inl x1), some (.inl x2), some (.inl x3), some (.inl x4), some (.inl x5), some (.inl x6), some (.inl x7), some (.inl x8)] [] M := by
  refine x_aload_n rfl rfl ?_
  refine x_iload rfl rfl ?_
  refine x_iload rfl rfl ?_
  refine x_iload rfl rfl ?_
  refine x_iload rfl rfl ?_
  exact x_callv (args := [.inr (.inr 92), .inl x7, .inl x6, .inl x8, .inl x4]) rfl rfl rfl k
theorem uX12_triangle_145 {d : Nat} {Q : Int → yM → Prop} {M : yM} {x1 : Int} {x2 : Int} {x3 : Int} {x4 : Int} {x5 : Int} {x6 : Int} {x7 : Int} {x8 : Int} (k : Q x5 M) : XW kX12_triangle d (some .int) (wQi Q) 145 [some (.inr (.inr 92)), some (.inl x1), some (.inl x2), some (.inl x3), some (.inl x4), some (.inl x5), some (.inl x6), some (.inl x7), some (.inl x8)] [] M := by
  refine x_iload rfl rfl ?_
  exact x_ireturn rfl k
theorem eX12_joinOf {d : Nat} {Q : Int → yM → Prop} {M : yM} {x1 : Int} {x2 : Int}  (h : XW kX12_joinOf d (some .int) (wQi Q) 0 [some (.inr (.inr 92)), some (.inl x1), some (.inl x2), none, none, none] [] M) : XCi d 134 [.inr (.inr 92), .inl x1, .inl x2] M Q :=
  XC.ofW (Mm := (yX12_joinOf, cX12_joinOf, 6, (some .int), 13, kX12_joinOf)) rfl (rcv_ok sh92) rfl rfl h
theorem uX12_joinOf_0 {d : Nat} {Q : Int → yM → Prop} {M : yM} {x1 : Int} {x2 : Int} (k : XW kX12_joinOf d (some .int) (wQi Q) 5 [some (.inr (.inr 92)), some (.inl x1), some (.inl x2), some (.inl 0), some (.inl 0), none] [] M) : XW kX12_joinOf d (some .int) (wQi Q) 0 [some (.inr (.inr 92)), some (.inl x1), some (.inl x2), none, none, none] [] M := by
  refine x_iconst 0 rfl (by decide) ?_
  refine x_istore_n rfl (Nat.le_of_ble_eq_true rfl) rfl ?_
  refine x_iconst 0 rfl (by decide) ?_
  refine x_istore rfl (Nat.le_of_ble_eq_true rfl) rfl ?_
  exact k
theorem uX12_joinOf_5 {d : Nat} {Q : Int → yM → Prop} {M : yM} {x1 : Int} {x2 : Int} {x3 : Int} {x4 : Int} {wx5 : Option yV} (h1 : -2147483648 ≤ x4 ∧ x4 < 2147483648) (kt : x4 ≥ (ld M 92 2) → XW kX12_joinOf d (some .int) (wQi Q) 78 [some (.inr (.inr 92)), some (.inl x1), some (.inl x2), some (.inl x3), some (.inl x4), wx5] [] M) (kf : x4 < (ld M 92 2) → XW kX12_joinOf d (some .int) (wQi Q) 14 [some (.inr (.inr 92)), some (.inl x1), some (.inl x2), some (.inl x3), some (.inl x4), wx5] [] M) : XW kX12_joinOf d (some .int) (wQi Q) 5 [some (.inr (.inr 92)), some (.inl x1), some (.inl x2), some (.inl x3), some (.inl x4), wx5] [] M := by
  refine x_iload rfl rfl ?_
  refine x_aload_n rfl rfl ?_
  refine x_getI rfl sh92 rfl ?_
  exact x_icmpge rfl h1 (rng_ld _ _ _) kt kf
theorem uX12_joinOf_14 {d : Nat} {Q : Int → yM → Prop} {M : yM} {x1 : Int} {x2 : Int} {x3 : Int} {x4 : Int} {wx5 : Option yV} (k : XW kX12_joinOf d (some .int) (wQi Q) 17 [some (.inr (.inr 92)), some (.inl x1), some (.inl x2), some (.inl x3), some (.inl x4), some (.inl 0)] [] M) : XW kX12_joinOf d (some .int) (wQi Q) 14 [some (.inr (.inr 92)), some (.inl x1), some (.inl x2), some (.inl x3), some (.inl x4), wx5] [] M := by
  refine x_iconst 0 rfl (by decide) ?_
  refine x_istore rfl (Nat.le_of_ble_eq_true rfl) rfl ?_
  exact k
theorem uX12_joinOf_17 {d : Nat} {Q : Int → yM → Prop} {M : yM} {x1 : Int} {x2 : Int} {x3 : Int} {x4 : Int} {x5 : Int} (h1 : -2147483648 ≤ x5 ∧ x5 < 2147483648) (kt : x5 ≥ (ld M 92 2) → XW kX12_joinOf d (some .int) (wQi Q) 72 [some (.inr (.inr 92)), some (.inl x1), some (.inl x2), some (.inl x3), some (.inl x4), some (.inl x5)] [] M) (kf : x5 < (ld M 92 2) → XW kX12_joinOf d (some .int) (wQi Q) 26 [some (.inr (.inr 92)), some (.inl x1), some (.inl x2), some (.inl x3), some (.inl x4), some (.inl x5)] [] M) : XW kX12_joinOf d (some .int) (wQi Q) 17 [some (.inr (.inr 92)), some (.inl x1), some (.inl x2), some (.inl x3), some (.inl x4), some (.inl x5)] [] M := by
  refine x_iload rfl rfl ?_
  refine x_aload_n rfl rfl ?_
  refine x_getI rfl sh92 rfl ?_
  exact x_icmpge rfl h1 (rng_ld _ _ _) kt kf
theorem uX12_joinOf_26 {d : Nat} {Q : Int → yM → Prop} {M : yM} {x1 : Int} {x2 : Int} {x3 : Int} {x4 : Int} {x5 : Int} (kt : (yand (yshr x1 x4) 1) ≠ 1 → XW kX12_joinOf d (some .int) (wQi Q) 72 [some (.inr (.inr 92)), some (.inl x1), some (.inl x2), some (.inl x3), some (.inl x4), some (.inl x5)] [] M) (kf : (yand (yshr x1 x4) 1) = 1 → XW kX12_joinOf d (some .int) (wQi Q) 36 [some (.inr (.inr 92)), some (.inl x1), some (.inl x2), some (.inl x3), some (.inl x4), some (.inl x5)] [] M) : XW kX12_joinOf d (some .int) (wQi Q) 26 [some (.inr (.inr 92)), some (.inl x1), some (.inl x2), some (.inl x3), some (.inl x4), some (.inl x5)] [] M := by
  refine x_iload_n rfl rfl ?_
  refine x_iload rfl rfl ?_
  refine x_ishr rfl ?_
  refine x_iconst 1 rfl (by decide) ?_
  refine x_iand rfl ?_
  refine x_iconst 1 rfl (by decide) ?_
  exact x_icmpne rfl (rng_yand _ _) (by decide) kt kf
theorem uX12_joinOf_36 {d : Nat} {Q : Int → yM → Prop} {M : yM} {x1 : Int} {x2 : Int} {x3 : Int} {x4 : Int} {x5 : Int} (kt : (yand (yshr x2 x5) 1) ≠ 1 → XW kX12_joinOf d (some .int) (wQi Q) 63 [some (.inr (.inr 92)), some (.inl x1), some (.inl x2), some (.inl x3), some (.inl x4), some (.inl x5)] [.inl x3] M) (kf : (yand (yshr x2 x5) 1) = 1 → XW kX12_joinOf d (some .int) (wQi Q) 47 [some (.inr (.inr 92)), some (.inl x1), some (.inl x2), some (.inl x3), some (.inl x4), some (.inl x5)] [.inl x3] M) : XW kX12_joinOf d (some .int) (wQi Q) 36 [some (.inr (.inr 92)), some (.inl x1), some (.inl x2), some (.inl x3), some (.inl x4), some (.inl x5)] [] M := by
  refine x_iload_n rfl rfl ?_
  refine x_iload_n rfl rfl ?_
  refine x_iload rfl rfl ?_
  refine x_ishr rfl ?_
  refine x_iconst 1 rfl (by decide) ?_
  refine x_iand rfl ?_
  refine x_iconst 1 rfl (by decide) ?_
  exact x_icmpne rfl (rng_yand _ _) (by decide) kt kf
theorem uX12_joinOf_47 {d : Nat} {Q : Int → yM → Prop} {M : yM} {x1 : Int} {x2 : Int} {x3 : Int} {x4 : Int} {x5 : Int} {s0 : Int} (h1 : 0 ≤ ((8 * x4) + x5) ∧ ((8 * x4) + x5) < 64) (k : XW kX12_joinOf d (some .int) (wQi Q) 64 [some (.inr (.inr 92)), some (.inl x1), some (.inl x2), some (.inl x3), some (.inl x4), some (.inl x5)] [.inl (ld M 94 ((8 * x4) + x5)), .inl s0] M) : XW kX12_joinOf d (some .int) (wQi Q) 47 [some (.inr (.inr 92)), some (.inl x1), some (.inl x2), some (.inl x3), some (.inl x4), some (.inl x5)] [.inl s0] M := by
  refine x_aload_n rfl rfl ?_
  refine x_getR rfl sh92 rfl ?_
  refine x_bipush 8 rfl (by decide) ?_
  refine x_iload rfl rfl ?_
  refine x_imul rfl ?_
  refine x_iload rfl rfl ?_
  refine x_iadd rfl ?_
  refine x_iaload rfl ⟨sh94, Nat.le_of_ble_eq_true rfl⟩ h1 ?_
  exact x_goto rfl k
theorem uX12_joinOf_63 {d : Nat} {Q : Int → yM → Prop} {M : yM} {x1 : Int} {x2 : Int} {x3 : Int} {x4 : Int} {x5 : Int} {s0 : Int} (k : XW kX12_joinOf d (some .int) (wQi Q) 64 [some (.inr (.inr 92)), some (.inl x1), some (.inl x2), some (.inl x3), some (.inl x4), some (.inl x5)] [.inl 0, .inl s0] M) : XW kX12_joinOf d (some .int) (wQi Q) 63 [some (.inr (.inr 92)), some (.inl x1), some (.inl x2), some (.inl x3), some (.inl x4), some (.inl x5)] [.inl s0] M := by
  refine x_iconst 0 rfl (by decide) ?_
  exact k
theorem uX12_joinOf_64 {d : Nat} {Q : Int → yM → Prop} {M : yM} {x1 : Int} {x2 : Int} {x3 : Int} {x4 : Int} {x5 : Int} {s0 : Int} {s1 : Int} (k : XW kX12_joinOf d (some .int) (wQi Q) 17 [some (.inr (.inr 92)), some (.inl x1), some (.inl x2), some (.inl (yor s1 s0)), some (.inl x4), some (.inl (x5 + 1))] [] M) : XW kX12_joinOf d (some .int) (wQi Q) 64 [some (.inr (.inr 92)), some (.inl x1), some (.inl x2), some (.inl x3), some (.inl x4), some (.inl x5)] [.inl s0, .inl s1] M := by
  refine x_ior rfl ?_
  refine x_istore_n rfl (Nat.le_of_ble_eq_true rfl) rfl ?_
  refine x_iinc 1 rfl (by decide) rfl rfl ?_
  exact x_goto rfl k
theorem uX12_joinOf_72 {d : Nat} {Q : Int → yM → Prop} {M : yM} {x1 : Int} {x2 : Int} {x3 : Int} {x4 : Int} {x5 : Int} (k : XW kX12_joinOf d (some .int) (wQi Q) 5 [some (.inr (.inr 92)), some (.inl x1), some (.inl x2), some (.inl x3), some (.inl (x4 + 1)), some (.inl x5)] [] M) : XW kX12_joinOf d (some .int) (wQi Q) 72 [some (.inr (.inr 92)), some (.inl x1), some (.inl x2), some (.inl x3), some (.inl x4), some (.inl x5)] [] M := by
  refine x_iinc 1 rfl (by decide) rfl rfl ?_
  exact x_goto rfl k
theorem uX12_joinOf_78 {d : Nat} {Q : Int → yM → Prop} {M : yM} {x1 : Int} {x2 : Int} {x3 : Int} {x4 : Int} {wx5 : Option yV} (k : Q x3 M) : XW kX12_joinOf d (some .int) (wQi Q) 78 [some (.inr (.inr 92)), some (.inl x1), some (.inl x2), some (.inl x3), some (.inl x4), wx5] [] M := by
  refine x_iload_n rfl rfl ?_
  exact x_ireturn rfl k
theorem eX12_join {d : Nat} {Q : Int → yM → Prop} {M : yM} {x1 : Int} {x2 : Int}  (h : XW kX12_join d (some .int) (wQi Q) 0 [some (.inr (.inr 92)), some (.inl x1), some (.inl x2)] [] M) : XCi d 135 [.inr (.inr 92), .inl x1, .inl x2] M Q :=
  XC.ofW (Mm := (yX12_join, cX12_join, 3, (some .int), 13, kX12_join)) rfl (rcv_ok sh92) rfl rfl h
theorem uX12_join_0 {d : Nat} {Q : Int → yM → Prop} {M : yM} {x1 : Int} {x2 : Int} (k : ∀ M', M' = (put M 92 0 0) → XW kX12_join d (some .int) (wQi Q) 5 [some (.inr (.inr 92)), some (.inl x1), some (.inl x2)] [] M') : XW kX12_join d (some .int) (wQi Q) 0 [some (.inr (.inr 92)), some (.inl x1), some (.inl x2)] [] M := by
  refine x_aload_n rfl rfl ?_
  refine x_iconst 0 rfl (by decide) ?_
  refine x_putI rfl rfl sh92 rfl ?_
  exact k _ rfl
theorem uX12_join_5 {d : Nat} {Q : Int → yM → Prop} {M : yM} {x1 : Int} {x2 : Int} (k : XCi d 123 [.inr (.inr 92), .inl x1] M (fun v M' => XW kX12_join (d + 1) (some .int) (wQi Q) 10 [some (.inr (.inr 92)), some (.inl x1), some (.inl x2)] [.inl v] M')) : XW kX12_join (d + 1) (some .int) (wQi Q) 5 [some (.inr (.inr 92)), some (.inl x1), some (.inl x2)] [] M := by
  refine x_aload_n rfl rfl ?_
  refine x_iload_n rfl rfl ?_
  exact x_calli (args := [.inr (.inr 92), .inl x1]) rfl rfl rfl k
theorem uX12_join_10 {d : Nat} {Q : Int → yM → Prop} {M : yM} {x1 : Int} {x2 : Int} {s0 : Int} (h1 : -2147483648 ≤ s0 ∧ s0 < 2147483648) (kt : s0 = 0 → XW kX12_join d (some .int) (wQi Q) 30 [some (.inr (.inr 92)), some (.inl x1), some (.inl x2)] [] M) (kf : s0 ≠ 0 → XW kX12_join d (some .int) (wQi Q) 13 [some (.inr (.inr 92)), some (.inl x1), some (.inl x2)] [] M) : XW kX12_join d (some .int) (wQi Q) 10 [some (.inr (.inr 92)), some (.inl x1), some (.inl x2)] [.inl s0] M := by
  exact x_ifeq rfl h1 kt kf
theorem uX12_join_13 {d : Nat} {Q : Int → yM → Prop} {M : yM} {x1 : Int} {x2 : Int} (k : XCi d 123 [.inr (.inr 92), .inl x2] M (fun v M' => XW kX12_join (d + 1) (some .int) (wQi Q) 18 [some (.inr (.inr 92)), some (.inl x1), some (.inl x2)] [.inl v] M')) : XW kX12_join (d + 1) (some .int) (wQi Q) 13 [some (.inr (.inr 92)), some (.inl x1), some (.inl x2)] [] M := by
  refine x_aload_n rfl rfl ?_
  refine x_iload_n rfl rfl ?_
  exact x_calli (args := [.inr (.inr 92), .inl x2]) rfl rfl rfl k
theorem uX12_join_18 {d : Nat} {Q : Int → yM → Prop} {M : yM} {x1 : Int} {x2 : Int} {s0 : Int} (h1 : -2147483648 ≤ s0 ∧ s0 < 2147483648) (kt : s0 = 0 → XW kX12_join d (some .int) (wQi Q) 30 [some (.inr (.inr 92)), some (.inl x1), some (.inl x2)] [] M) (kf : s0 ≠ 0 → XW kX12_join d (some .int) (wQi Q) 21 [some (.inr (.inr 92)), some (.inl x1), some (.inl x2)] [] M) : XW kX12_join d (some .int) (wQi Q) 18 [some (.inr (.inr 92)), some (.inl x1), some (.inl x2)] [.inl s0] M := by
  exact x_ifeq rfl h1 kt kf
theorem uX12_join_21 {d : Nat} {Q : Int → yM → Prop} {M : yM} {x1 : Int} {x2 : Int} (k : XCi d 134 [.inr (.inr 92), .inl x1, .inl x2] M (fun v M' => XW kX12_join (d + 1) (some .int) (wQi Q) 27 [some (.inr (.inr 92)), some (.inl x1), some (.inl x2)] [.inl v] M')) : XW kX12_join (d + 1) (some .int) (wQi Q) 21 [some (.inr (.inr 92)), some (.inl x1), some (.inl x2)] [] M := by
  refine x_aload_n rfl rfl ?_
  refine x_iload_n rfl rfl ?_
  refine x_iload_n rfl rfl ?_
  exact x_calli (args := [.inr (.inr 92), .inl x1, .inl x2]) rfl rfl rfl k
theorem uX12_join_27 {d : Nat} {Q : Int → yM → Prop} {M : yM} {x1 : Int} {x2 : Int} {s0 : Int} (k : XW kX12_join d (some .int) (wQi Q) 31 [some (.inr (.inr 92)), some (.inl x1), some (.inl x2)] [.inl s0] M) : XW kX12_join d (some .int) (wQi Q) 27 [some (.inr (.inr 92)), some (.inl x1), some (.inl x2)] [.inl s0] M := by
  exact x_goto rfl k
theorem uX12_join_30 {d : Nat} {Q : Int → yM → Prop} {M : yM} {x1 : Int} {x2 : Int} (k : XW kX12_join d (some .int) (wQi Q) 31 [some (.inr (.inr 92)), some (.inl x1), some (.inl x2)] [.inl (-1)] M) : XW kX12_join d (some .int) (wQi Q) 30 [some (.inr (.inr 92)), some (.inl x1), some (.inl x2)] [] M := by
  refine x_iconst (-1) rfl (by decide) ?_
  exact k
theorem uX12_join_31 {d : Nat} {Q : Int → yM → Prop} {M : yM} {x1 : Int} {x2 : Int} {s0 : Int} (k : Q s0 M) : XW kX12_join d (some .int) (wQi Q) 31 [some (.inr (.inr 92)), some (.inl x1), some (.inl x2)] [.inl s0] M := by
  exact x_ireturn rfl k
theorem eX12_turnedOf {d : Nat} {Q : Int → yM → Prop} {M : yM} {x1 : Int}  (h : XW kX12_turnedOf d (some .int) (wQi Q) 0 [some (.inr (.inr 92)), some (.inl x1), none, none] [] M) : XCi d 136 [.inr (.inr 92), .inl x1] M Q :=
  XC.ofW (Mm := (yX12_turnedOf, cX12_turnedOf, 4, (some .int), 13, kX12_turnedOf)) rfl (rcv_ok sh92) rfl rfl h
theorem uX12_turnedOf_0 {d : Nat} {Q : Int → yM → Prop} {M : yM} {x1 : Int} (k : XW kX12_turnedOf d (some .int) (wQi Q) 4 [some (.inr (.inr 92)), some (.inl x1), some (.inl 0), some (.inl 0)] [] M) : XW kX12_turnedOf d (some .int) (wQi Q) 0 [some (.inr (.inr 92)), some (.inl x1), none, none] [] M := by
  refine x_iconst 0 rfl (by decide) ?_
  refine x_istore_n rfl (Nat.le_of_ble_eq_true rfl) rfl ?_
  refine x_iconst 0 rfl (by decide) ?_
  refine x_istore_n rfl (Nat.le_of_ble_eq_true rfl) rfl ?_
  exact k
theorem uX12_turnedOf_4 {d : Nat} {Q : Int → yM → Prop} {M : yM} {x1 : Int} {x2 : Int} {x3 : Int} (h1 : -2147483648 ≤ x3 ∧ x3 < 2147483648) (kt : x3 ≥ (ld M 92 2) → XW kX12_turnedOf d (some .int) (wQi Q) 33 [some (.inr (.inr 92)), some (.inl x1), some (.inl x2), some (.inl x3)] [] M) (kf : x3 < (ld M 92 2) → XW kX12_turnedOf d (some .int) (wQi Q) 12 [some (.inr (.inr 92)), some (.inl x1), some (.inl x2), some (.inl x3)] [] M) : XW kX12_turnedOf d (some .int) (wQi Q) 4 [some (.inr (.inr 92)), some (.inl x1), some (.inl x2), some (.inl x3)] [] M := by
  refine x_iload_n rfl rfl ?_
  refine x_aload_n rfl rfl ?_
  refine x_getI rfl sh92 rfl ?_
  exact x_icmpge rfl h1 (rng_ld _ _ _) kt kf
theorem uX12_turnedOf_12 {d : Nat} {Q : Int → yM → Prop} {M : yM} {x1 : Int} {x2 : Int} {x3 : Int} (h1 : 0 ≤ x3 ∧ x3 < 8) (k : XW kX12_turnedOf d (some .int) (wQi Q) 4 [some (.inr (.inr 92)), some (.inl x1), some (.inl (yor x2 (yshl (yand (yshr x1 x3) 1) (ld M 93 x3)))), some (.inl (x3 + 1))] [] M) : XW kX12_turnedOf d (some .int) (wQi Q) 12 [some (.inr (.inr 92)), some (.inl x1), some (.inl x2), some (.inl x3)] [] M := by
  refine x_iload_n rfl rfl ?_
  refine x_iload_n rfl rfl ?_
  refine x_iload_n rfl rfl ?_
  refine x_ishr rfl ?_
  refine x_iconst 1 rfl (by decide) ?_
  refine x_iand rfl ?_
  refine x_aload_n rfl rfl ?_
  refine x_getR rfl sh92 rfl ?_
  refine x_iload_n rfl rfl ?_
  refine x_iaload rfl ⟨sh93, Nat.le_of_ble_eq_true rfl⟩ h1 ?_
  refine x_ishl rfl ?_
  refine x_ior rfl ?_
  refine x_istore_n rfl (Nat.le_of_ble_eq_true rfl) rfl ?_
  refine x_iinc 1 rfl (by decide) rfl rfl ?_
  exact x_goto rfl k
theorem uX12_turnedOf_33 {d : Nat} {Q : Int → yM → Prop} {M : yM} {x1 : Int} {x2 : Int} {x3 : Int} (k : Q x2 M) : XW kX12_turnedOf d (some .int) (wQi Q) 33 [some (.inr (.inr 92)), some (.inl x1), some (.inl x2), some (.inl x3)] [] M := by
  refine x_iload_n rfl rfl ?_
  exact x_ireturn rfl k
theorem eX12_turned {d : Nat} {Q : Int → yM → Prop} {M : yM} {x1 : Int}  (h : XW kX12_turned d (some .int) (wQi Q) 0 [some (.inr (.inr 92)), some (.inl x1)] [] M) : XCi d 137 [.inr (.inr 92), .inl x1] M Q :=
  XC.ofW (Mm := (yX12_turned, cX12_turned, 2, (some .int), 13, kX12_turned)) rfl (rcv_ok sh92) rfl rfl h
theorem uX12_turned_0 {d : Nat} {Q : Int → yM → Prop} {M : yM} {x1 : Int} (k : ∀ M', M' = (put M 92 0 0) → XW kX12_turned d (some .int) (wQi Q) 5 [some (.inr (.inr 92)), some (.inl x1)] [] M') : XW kX12_turned d (some .int) (wQi Q) 0 [some (.inr (.inr 92)), some (.inl x1)] [] M := by
  refine x_aload_n rfl rfl ?_
  refine x_iconst 0 rfl (by decide) ?_
  refine x_putI rfl rfl sh92 rfl ?_
  exact k _ rfl
theorem uX12_turned_5 {d : Nat} {Q : Int → yM → Prop} {M : yM} {x1 : Int} (k : XCi d 123 [.inr (.inr 92), .inl x1] M (fun v M' => XW kX12_turned (d + 1) (some .int) (wQi Q) 10 [some (.inr (.inr 92)), some (.inl x1)] [.inl v] M')) : XW kX12_turned (d + 1) (some .int) (wQi Q) 5 [some (.inr (.inr 92)), some (.inl x1)] [] M := by
  refine x_aload_n rfl rfl ?_
  refine x_iload_n rfl rfl ?_
  exact x_calli (args := [.inr (.inr 92), .inl x1]) rfl rfl rfl k
theorem uX12_turned_10 {d : Nat} {Q : Int → yM → Prop} {M : yM} {x1 : Int} {s0 : Int} (h1 : -2147483648 ≤ s0 ∧ s0 < 2147483648) (kt : s0 = 0 → XW kX12_turned d (some .int) (wQi Q) 21 [some (.inr (.inr 92)), some (.inl x1)] [] M) (kf : s0 ≠ 0 → XW kX12_turned d (some .int) (wQi Q) 13 [some (.inr (.inr 92)), some (.inl x1)] [] M) : XW kX12_turned d (some .int) (wQi Q) 10 [some (.inr (.inr 92)), some (.inl x1)] [.inl s0] M := by
  exact x_ifeq rfl h1 kt kf
theorem uX12_turned_13 {d : Nat} {Q : Int → yM → Prop} {M : yM} {x1 : Int} (k : XCi d 136 [.inr (.inr 92), .inl x1] M (fun v M' => XW kX12_turned (d + 1) (some .int) (wQi Q) 18 [some (.inr (.inr 92)), some (.inl x1)] [.inl v] M')) : XW kX12_turned (d + 1) (some .int) (wQi Q) 13 [some (.inr (.inr 92)), some (.inl x1)] [] M := by
  refine x_aload_n rfl rfl ?_
  refine x_iload_n rfl rfl ?_
  exact x_calli (args := [.inr (.inr 92), .inl x1]) rfl rfl rfl k
theorem uX12_turned_18 {d : Nat} {Q : Int → yM → Prop} {M : yM} {x1 : Int} {s0 : Int} (k : XW kX12_turned d (some .int) (wQi Q) 22 [some (.inr (.inr 92)), some (.inl x1)] [.inl s0] M) : XW kX12_turned d (some .int) (wQi Q) 18 [some (.inr (.inr 92)), some (.inl x1)] [.inl s0] M := by
  exact x_goto rfl k
theorem uX12_turned_21 {d : Nat} {Q : Int → yM → Prop} {M : yM} {x1 : Int} (k : XW kX12_turned d (some .int) (wQi Q) 22 [some (.inr (.inr 92)), some (.inl x1)] [.inl (-1)] M) : XW kX12_turned d (some .int) (wQi Q) 21 [some (.inr (.inr 92)), some (.inl x1)] [] M := by
  refine x_iconst (-1) rfl (by decide) ?_
  exact k
theorem uX12_turned_22 {d : Nat} {Q : Int → yM → Prop} {M : yM} {x1 : Int} {s0 : Int} (k : Q s0 M) : XW kX12_turned d (some .int) (wQi Q) 22 [some (.inr (.inr 92)), some (.inl x1)] [.inl s0] M := by
  exact x_ireturn rfl k
theorem eX12_fault {d : Nat} {Q : Int → yM → Prop} {M : yM}   (h : XW kX12_fault d (some .int) (wQi Q) 0 [some (.inr (.inr 92)), none, none, none] [] M) : XCi d 138 [.inr (.inr 92)] M Q :=
  XC.ofW (Mm := (yX12_fault, cX12_fault, 4, (some .int), 13, kX12_fault)) rfl (rcv_ok sh92) rfl rfl h
theorem uX12_fault_0 {d : Nat} {Q : Int → yM → Prop} {M : yM}  (k : ∀ M', M' = (put M 92 0 0) → XW kX12_fault d (some .int) (wQi Q) 5 [some (.inr (.inr 92)), none, none, none] [] M') : XW kX12_fault d (some .int) (wQi Q) 0 [some (.inr (.inr 92)), none, none, none] [] M := by
  refine x_aload_n rfl rfl ?_
  refine x_iconst 0 rfl (by decide) ?_
  refine x_putI rfl rfl sh92 rfl ?_
  exact k _ rfl
theorem uX12_fault_5 {d : Nat} {Q : Int → yM → Prop} {M : yM}  (k : XW kX12_fault d (some .int) (wQi Q) 7 [some (.inr (.inr 92)), some (.inl 0), none, none] [] M) : XW kX12_fault d (some .int) (wQi Q) 5 [some (.inr (.inr 92)), none, none, none] [] M := by
  refine x_iconst 0 rfl (by decide) ?_
  refine x_istore_n rfl (Nat.le_of_ble_eq_true rfl) rfl ?_
  exact k
theorem uX12_fault_7 {d : Nat} {Q : Int → yM → Prop} {M : yM} {x1 : Int} {wx2 : Option yV} {wx3 : Option yV} (h1 : -2147483648 ≤ x1 ∧ x1 < 2147483648) (kt : x1 ≥ (ld M 92 2) → XW kX12_fault d (some .int) (wQi Q) 104 [some (.inr (.inr 92)), some (.inl x1), wx2, wx3] [] M) (kf : x1 < (ld M 92 2) → XW kX12_fault d (some .int) (wQi Q) 15 [some (.inr (.inr 92)), some (.inl x1), wx2, wx3] [] M) : XW kX12_fault d (some .int) (wQi Q) 7 [some (.inr (.inr 92)), some (.inl x1), wx2, wx3] [] M := by
  refine x_iload_n rfl rfl ?_
  refine x_aload_n rfl rfl ?_
  refine x_getI rfl sh92 rfl ?_
  exact x_icmpge rfl h1 (rng_ld _ _ _) kt kf
theorem uX12_fault_15 {d : Nat} {Q : Int → yM → Prop} {M : yM} {x1 : Int} {wx2 : Option yV} {wx3 : Option yV} (k : XW kX12_fault d (some .int) (wQi Q) 17 [some (.inr (.inr 92)), some (.inl x1), some (.inl 0), wx3] [] M) : XW kX12_fault d (some .int) (wQi Q) 15 [some (.inr (.inr 92)), some (.inl x1), wx2, wx3] [] M := by
  refine x_iconst 0 rfl (by decide) ?_
  refine x_istore_n rfl (Nat.le_of_ble_eq_true rfl) rfl ?_
  exact k
theorem uX12_fault_17 {d : Nat} {Q : Int → yM → Prop} {M : yM} {x1 : Int} {x2 : Int} {wx3 : Option yV} (h1 : -2147483648 ≤ x2 ∧ x2 < 2147483648) (kt : x2 ≥ (ld M 92 2) → XW kX12_fault d (some .int) (wQi Q) 98 [some (.inr (.inr 92)), some (.inl x1), some (.inl x2), wx3] [] M) (kf : x2 < (ld M 92 2) → XW kX12_fault d (some .int) (wQi Q) 25 [some (.inr (.inr 92)), some (.inl x1), some (.inl x2), wx3] [] M) : XW kX12_fault d (some .int) (wQi Q) 17 [some (.inr (.inr 92)), some (.inl x1), some (.inl x2), wx3] [] M := by
  refine x_iload_n rfl rfl ?_
  refine x_aload_n rfl rfl ?_
  refine x_getI rfl sh92 rfl ?_
  exact x_icmpge rfl h1 (rng_ld _ _ _) kt kf
theorem uX12_fault_25 {d : Nat} {Q : Int → yM → Prop} {M : yM} {x1 : Int} {x2 : Int} {wx3 : Option yV} (k : XW kX12_fault d (some .int) (wQi Q) 27 [some (.inr (.inr 92)), some (.inl x1), some (.inl x2), some (.inl 0)] [] M) : XW kX12_fault d (some .int) (wQi Q) 25 [some (.inr (.inr 92)), some (.inl x1), some (.inl x2), wx3] [] M := by
  refine x_iconst 0 rfl (by decide) ?_
  refine x_istore_n rfl (Nat.le_of_ble_eq_true rfl) rfl ?_
  exact k
theorem uX12_fault_27 {d : Nat} {Q : Int → yM → Prop} {M : yM} {x1 : Int} {x2 : Int} {x3 : Int} (h1 : -2147483648 ≤ x3 ∧ x3 < 2147483648) (kt : x3 ≥ (ld M 92 2) → XW kX12_fault d (some .int) (wQi Q) 92 [some (.inr (.inr 92)), some (.inl x1), some (.inl x2), some (.inl x3)] [] M) (kf : x3 < (ld M 92 2) → XW kX12_fault d (some .int) (wQi Q) 35 [some (.inr (.inr 92)), some (.inl x1), some (.inl x2), some (.inl x3)] [] M) : XW kX12_fault d (some .int) (wQi Q) 27 [some (.inr (.inr 92)), some (.inl x1), some (.inl x2), some (.inl x3)] [] M := by
  refine x_iload_n rfl rfl ?_
  refine x_aload_n rfl rfl ?_
  refine x_getI rfl sh92 rfl ?_
  exact x_icmpge rfl h1 (rng_ld _ _ _) kt kf
theorem uX12_fault_35 {d : Nat} {Q : Int → yM → Prop} {M : yM} {x1 : Int} {x2 : Int} {x3 : Int} (h1 : 0 ≤ ((8 * x1) + x2) ∧ ((8 * x1) + x2) < 64) (k : XCi d 134 [.inr (.inr 92), .inl (ld M 94 ((8 * x1) + x2)), .inl (yshl 1 x3)] M (fun v M' => XW kX12_fault (d + 1) (some .int) (wQi Q) 53 [some (.inr (.inr 92)), some (.inl x1), some (.inl x2), some (.inl x3)] [.inl v] M')) : XW kX12_fault (d + 1) (some .int) (wQi Q) 35 [some (.inr (.inr 92)), some (.inl x1), some (.inl x2), some (.inl x3)] [] M := by
  refine x_aload_n rfl rfl ?_
  refine x_aload_n rfl rfl ?_
  refine x_getR rfl sh92 rfl ?_
  refine x_bipush 8 rfl (by decide) ?_
  refine x_iload_n rfl rfl ?_
  refine x_imul rfl ?_
  refine x_iload_n rfl rfl ?_
  refine x_iadd rfl ?_
  refine x_iaload rfl ⟨sh94, Nat.le_of_ble_eq_true rfl⟩ h1 ?_
  refine x_iconst 1 rfl (by decide) ?_
  refine x_iload_n rfl rfl ?_
  refine x_ishl rfl ?_
  exact x_calli (args := [.inr (.inr 92), .inl (ld M 94 ((8 * x1) + x2)), .inl (yshl 1 x3)]) rfl rfl rfl k
theorem uX12_fault_53 {d : Nat} {Q : Int → yM → Prop} {M : yM} {x1 : Int} {x2 : Int} {x3 : Int} {s0 : Int} (h1 : 0 ≤ ((8 * x2) + x3) ∧ ((8 * x2) + x3) < 64) (k : XCi d 134 [.inr (.inr 92), .inl (yshl 1 x1), .inl (ld M 94 ((8 * x2) + x3))] M (fun v M' => XW kX12_fault (d + 1) (some .int) (wQi Q) 71 [some (.inr (.inr 92)), some (.inl x1), some (.inl x2), some (.inl x3)] [.inl v, .inl s0] M')) : XW kX12_fault (d + 1) (some .int) (wQi Q) 53 [some (.inr (.inr 92)), some (.inl x1), some (.inl x2), some (.inl x3)] [.inl s0] M := by
  refine x_aload_n rfl rfl ?_
  refine x_iconst 1 rfl (by decide) ?_
  refine x_iload_n rfl rfl ?_
  refine x_ishl rfl ?_
  refine x_aload_n rfl rfl ?_
  refine x_getR rfl sh92 rfl ?_
  refine x_bipush 8 rfl (by decide) ?_
  refine x_iload_n rfl rfl ?_
  refine x_imul rfl ?_
  refine x_iload_n rfl rfl ?_
  refine x_iadd rfl ?_
  refine x_iaload rfl ⟨sh94, Nat.le_of_ble_eq_true rfl⟩ h1 ?_
  exact x_calli (args := [.inr (.inr 92), .inl (yshl 1 x1), .inl (ld M 94 ((8 * x2) + x3))]) rfl rfl rfl k
theorem uX12_fault_71 {d : Nat} {Q : Int → yM → Prop} {M : yM} {x1 : Int} {x2 : Int} {x3 : Int} {s0 : Int} {s1 : Int} (h1 : -2147483648 ≤ s1 ∧ s1 < 2147483648) (h2 : -2147483648 ≤ s0 ∧ s0 < 2147483648) (kt : s1 = s0 → XW kX12_fault d (some .int) (wQi Q) 86 [some (.inr (.inr 92)), some (.inl x1), some (.inl x2), some (.inl x3)] [] M) (kf : s1 ≠ s0 → XW kX12_fault d (some .int) (wQi Q) 74 [some (.inr (.inr 92)), some (.inl x1), some (.inl x2), some (.inl x3)] [] M) : XW kX12_fault d (some .int) (wQi Q) 71 [some (.inr (.inr 92)), some (.inl x1), some (.inl x2), some (.inl x3)] [.inl s0, .inl s1] M := by
  exact x_icmpeq rfl h1 h2 kt kf
theorem uX12_fault_74 {d : Nat} {Q : Int → yM → Prop} {M : yM} {x1 : Int} {x2 : Int} {x3 : Int} (k : Q (((64 * x1) + (8 * x2)) + x3) M) : XW kX12_fault d (some .int) (wQi Q) 74 [some (.inr (.inr 92)), some (.inl x1), some (.inl x2), some (.inl x3)] [] M := by
  refine x_bipush 64 rfl (by decide) ?_
  refine x_iload_n rfl rfl ?_
  refine x_imul rfl ?_
  refine x_bipush 8 rfl (by decide) ?_
  refine x_iload_n rfl rfl ?_
  refine x_imul rfl ?_
  refine x_iadd rfl ?_
  refine x_iload_n rfl rfl ?_
  refine x_iadd rfl ?_
  exact x_ireturn rfl k
theorem uX12_fault_86 {d : Nat} {Q : Int → yM → Prop} {M : yM} {x1 : Int} {x2 : Int} {x3 : Int} (k : XW kX12_fault d (some .int) (wQi Q) 27 [some (.inr (.inr 92)), some (.inl x1), some (.inl x2), some (.inl (x3 + 1))] [] M) : XW kX12_fault d (some .int) (wQi Q) 86 [some (.inr (.inr 92)), some (.inl x1), some (.inl x2), some (.inl x3)] [] M := by
  refine x_iinc 1 rfl (by decide) rfl rfl ?_
  exact x_goto rfl k
theorem uX12_fault_92 {d : Nat} {Q : Int → yM → Prop} {M : yM} {x1 : Int} {x2 : Int} {x3 : Int} (k : XW kX12_fault d (some .int) (wQi Q) 17 [some (.inr (.inr 92)), some (.inl x1), some (.inl (x2 + 1)), some (.inl x3)] [] M) : XW kX12_fault d (some .int) (wQi Q) 92 [some (.inr (.inr 92)), some (.inl x1), some (.inl x2), some (.inl x3)] [] M := by
  refine x_iinc 1 rfl (by decide) rfl rfl ?_
  exact x_goto rfl k
theorem uX12_fault_98 {d : Nat} {Q : Int → yM → Prop} {M : yM} {x1 : Int} {x2 : Int} {wx3 : Option yV} (k : XW kX12_fault d (some .int) (wQi Q) 7 [some (.inr (.inr 92)), some (.inl (x1 + 1)), some (.inl x2), wx3] [] M) : XW kX12_fault d (some .int) (wQi Q) 98 [some (.inr (.inr 92)), some (.inl x1), some (.inl x2), wx3] [] M := by
  refine x_iinc 1 rfl (by decide) rfl rfl ?_
  exact x_goto rfl k
theorem uX12_fault_104 {d : Nat} {Q : Int → yM → Prop} {M : yM} {x1 : Int} {wx2 : Option yV} {wx3 : Option yV} (k : Q (-9) M) : XW kX12_fault d (some .int) (wQi Q) 104 [some (.inr (.inr 92)), some (.inl x1), wx2, wx3] [] M := by
  refine x_bipush (-9) rfl (by decide) ?_
  exact x_ireturn rfl k
theorem eX12_becomes {d : Nat} {Q : Int → yM → Prop} {M : yM} {x1 : Int}  (h : XW kX12_becomes d (some .int) (wQi Q) 0 [some (.inr (.inr 92)), some (.inl x1), none] [] M) : XCi d 139 [.inr (.inr 92), .inl x1] M Q :=
  XC.ofW (Mm := (yX12_becomes, cX12_becomes, 3, (some .int), 13, kX12_becomes)) rfl (rcv_ok sh92) rfl rfl h
theorem uX12_becomes_0 {d : Nat} {Q : Int → yM → Prop} {M : yM} {x1 : Int} (k : ∀ M', M' = (put M 92 2 x1) → XW kX12_becomes d (some .int) (wQi Q) 5 [some (.inr (.inr 92)), some (.inl x1), none] [] M') : XW kX12_becomes d (some .int) (wQi Q) 0 [some (.inr (.inr 92)), some (.inl x1), none] [] M := by
  refine x_aload_n rfl rfl ?_
  refine x_iload_n rfl rfl ?_
  refine x_putI rfl rfl sh92 rfl ?_
  exact k _ rfl
theorem uX12_becomes_5 {d : Nat} {Q : Int → yM → Prop} {M : yM} {x1 : Int} (k : XW kX12_becomes d (some .int) (wQi Q) 7 [some (.inr (.inr 92)), some (.inl x1), some (.inl 0)] [] M) : XW kX12_becomes d (some .int) (wQi Q) 5 [some (.inr (.inr 92)), some (.inl x1), none] [] M := by
  refine x_iconst 0 rfl (by decide) ?_
  refine x_istore_n rfl (Nat.le_of_ble_eq_true rfl) rfl ?_
  exact k
theorem uX12_becomes_7 {d : Nat} {Q : Int → yM → Prop} {M : yM} {x1 : Int} {x2 : Int} (h1 : -2147483648 ≤ x2 ∧ x2 < 2147483648) (kt : x2 ≥ 8 → XW kX12_becomes d (some .int) (wQi Q) 43 [some (.inr (.inr 92)), some (.inl x1), some (.inl x2)] [] M) (kf : x2 < 8 → XW kX12_becomes d (some .int) (wQi Q) 13 [some (.inr (.inr 92)), some (.inl x1), some (.inl x2)] [] M) : XW kX12_becomes d (some .int) (wQi Q) 7 [some (.inr (.inr 92)), some (.inl x1), some (.inl x2)] [] M := by
  refine x_iload_n rfl rfl ?_
  refine x_bipush 8 rfl (by decide) ?_
  exact x_icmpge rfl h1 (by decide) kt kf
theorem uX12_becomes_13 {d : Nat} {Q : Int → yM → Prop} {M : yM} {x1 : Int} {x2 : Int} (h1 : -2147483648 ≤ x2 ∧ x2 < 2147483648) (kt : x2 ≥ (ld M 92 2) → XW kX12_becomes d (some .int) (wQi Q) 35 [some (.inr (.inr 92)), some (.inl x1), some (.inl x2)] [.inl x2, .inr (.inr 93)] M) (kf : x2 < (ld M 92 2) → XW kX12_becomes d (some .int) (wQi Q) 26 [some (.inr (.inr 92)), some (.inl x1), some (.inl x2)] [.inl x2, .inr (.inr 93)] M) : XW kX12_becomes d (some .int) (wQi Q) 13 [some (.inr (.inr 92)), some (.inl x1), some (.inl x2)] [] M := by
  refine x_aload_n rfl rfl ?_
  refine x_getR rfl sh92 rfl ?_
  refine x_iload_n rfl rfl ?_
  refine x_iload_n rfl rfl ?_
  refine x_aload_n rfl rfl ?_
  refine x_getI rfl sh92 rfl ?_
  exact x_icmpge rfl h1 (rng_ld _ _ _) kt kf
theorem uX12_becomes_26 {d : Nat} {Q : Int → yM → Prop} {M : yM} {x1 : Int} {x2 : Int} {s0 : Int} (h1 : 0 ≤ x2 ∧ x2 < 8) (k : XW kX12_becomes d (some .int) (wQi Q) 36 [some (.inr (.inr 92)), some (.inl x1), some (.inl x2)] [.inl (ld M 97 x2), .inl s0, .inr (.inr 93)] M) : XW kX12_becomes d (some .int) (wQi Q) 26 [some (.inr (.inr 92)), some (.inl x1), some (.inl x2)] [.inl s0, .inr (.inr 93)] M := by
  refine x_aload_n rfl rfl ?_
  refine x_getR rfl sh92 rfl ?_
  refine x_iload_n rfl rfl ?_
  refine x_iaload rfl ⟨sh97, Nat.le_of_ble_eq_true rfl⟩ h1 ?_
  exact x_goto rfl k
theorem uX12_becomes_35 {d : Nat} {Q : Int → yM → Prop} {M : yM} {x1 : Int} {x2 : Int} {s0 : Int} (k : XW kX12_becomes d (some .int) (wQi Q) 36 [some (.inr (.inr 92)), some (.inl x1), some (.inl x2)] [.inl x2, .inl s0, .inr (.inr 93)] M) : XW kX12_becomes d (some .int) (wQi Q) 35 [some (.inr (.inr 92)), some (.inl x1), some (.inl x2)] [.inl s0, .inr (.inr 93)] M := by
  refine x_iload_n rfl rfl ?_
  exact k
theorem uX12_becomes_36 {d : Nat} {Q : Int → yM → Prop} {M : yM} {x1 : Int} {x2 : Int} {s0 : Int} {s1 : Int} (h1 : 0 ≤ s1 ∧ s1 < 8) (k : ∀ M', M' = (put M 93 s1 s0) → XW kX12_becomes d (some .int) (wQi Q) 37 [some (.inr (.inr 92)), some (.inl x1), some (.inl x2)] [] M') : XW kX12_becomes d (some .int) (wQi Q) 36 [some (.inr (.inr 92)), some (.inl x1), some (.inl x2)] [.inl s0, .inl s1, .inr (.inr 93)] M := by
  refine x_iastore rfl ⟨sh93, Nat.le_of_ble_eq_true rfl⟩ h1  ?_
  exact k _ rfl
theorem uX12_becomes_37 {d : Nat} {Q : Int → yM → Prop} {M : yM} {x1 : Int} {x2 : Int} (k : XW kX12_becomes d (some .int) (wQi Q) 7 [some (.inr (.inr 92)), some (.inl x1), some (.inl (x2 + 1))] [] M) : XW kX12_becomes d (some .int) (wQi Q) 37 [some (.inr (.inr 92)), some (.inl x1), some (.inl x2)] [] M := by
  refine x_iinc 1 rfl (by decide) rfl rfl ?_
  exact x_goto rfl k
theorem uX12_becomes_43 {d : Nat} {Q : Int → yM → Prop} {M : yM} {x1 : Int} {x2 : Int} (k : XW kX12_becomes d (some .int) (wQi Q) 45 [some (.inr (.inr 92)), some (.inl x1), some (.inl 0)] [] M) : XW kX12_becomes d (some .int) (wQi Q) 43 [some (.inr (.inr 92)), some (.inl x1), some (.inl x2)] [] M := by
  refine x_iconst 0 rfl (by decide) ?_
  refine x_istore_n rfl (Nat.le_of_ble_eq_true rfl) rfl ?_
  exact k
theorem uX12_becomes_45 {d : Nat} {Q : Int → yM → Prop} {M : yM} {x1 : Int} {x2 : Int} (h1 : -2147483648 ≤ x2 ∧ x2 < 2147483648) (kt : x2 ≥ 64 → XW kX12_becomes d (some .int) (wQi Q) 69 [some (.inr (.inr 92)), some (.inl x1), some (.inl x2)] [] M) (kf : x2 < 64 → XW kX12_becomes d (some .int) (wQi Q) 51 [some (.inr (.inr 92)), some (.inl x1), some (.inl x2)] [] M) : XW kX12_becomes d (some .int) (wQi Q) 45 [some (.inr (.inr 92)), some (.inl x1), some (.inl x2)] [] M := by
  refine x_iload_n rfl rfl ?_
  refine x_bipush 64 rfl (by decide) ?_
  exact x_icmpge rfl h1 (by decide) kt kf
theorem uX12_becomes_51 {d : Nat} {Q : Int → yM → Prop} {M : yM} {x1 : Int} {x2 : Int} (h1 : 0 ≤ x2 ∧ x2 < 64) (h2 : 0 ≤ x2 ∧ x2 < 64) (k : ∀ M', M' = (put M 94 x2 (ld M 98 x2)) → XW kX12_becomes d (some .int) (wQi Q) 63 [some (.inr (.inr 92)), some (.inl x1), some (.inl x2)] [] M') : XW kX12_becomes d (some .int) (wQi Q) 51 [some (.inr (.inr 92)), some (.inl x1), some (.inl x2)] [] M := by
  refine x_aload_n rfl rfl ?_
  refine x_getR rfl sh92 rfl ?_
  refine x_iload_n rfl rfl ?_
  refine x_aload_n rfl rfl ?_
  refine x_getR rfl sh92 rfl ?_
  refine x_iload_n rfl rfl ?_
  refine x_iaload rfl ⟨sh98, Nat.le_of_ble_eq_true rfl⟩ h1 ?_
  refine x_iastore rfl ⟨sh94, Nat.le_of_ble_eq_true rfl⟩ h2  ?_
  exact k _ rfl
theorem uX12_becomes_63 {d : Nat} {Q : Int → yM → Prop} {M : yM} {x1 : Int} {x2 : Int} (k : XW kX12_becomes d (some .int) (wQi Q) 45 [some (.inr (.inr 92)), some (.inl x1), some (.inl (x2 + 1))] [] M) : XW kX12_becomes d (some .int) (wQi Q) 63 [some (.inr (.inr 92)), some (.inl x1), some (.inl x2)] [] M := by
  refine x_iinc 1 rfl (by decide) rfl rfl ?_
  exact x_goto rfl k
theorem uX12_becomes_69 {d : Nat} {Q : Int → yM → Prop} {M : yM} {x1 : Int} {x2 : Int} (k : XCv d 127 [.inr (.inr 92)] M (fun M' => XW kX12_becomes (d + 1) (some .int) (wQi Q) 73 [some (.inr (.inr 92)), some (.inl x1), some (.inl x2)] [] M')) : XW kX12_becomes (d + 1) (some .int) (wQi Q) 69 [some (.inr (.inr 92)), some (.inl x1), some (.inl x2)] [] M := by
  refine x_aload_n rfl rfl ?_
  exact x_callv (args := [.inr (.inr 92)]) rfl rfl rfl k
theorem uX12_becomes_73 {d : Nat} {Q : Int → yM → Prop} {M : yM} {x1 : Int} {x2 : Int} (k : XCv d 128 [.inr (.inr 92)] M (fun M' => XW kX12_becomes (d + 1) (some .int) (wQi Q) 77 [some (.inr (.inr 92)), some (.inl x1), some (.inl x2)] [] M')) : XW kX12_becomes (d + 1) (some .int) (wQi Q) 73 [some (.inr (.inr 92)), some (.inl x1), some (.inl x2)] [] M := by
  refine x_aload_n rfl rfl ?_
  exact x_callv (args := [.inr (.inr 92)]) rfl rfl rfl k
theorem uX12_becomes_77 {d : Nat} {Q : Int → yM → Prop} {M : yM} {x1 : Int} {x2 : Int} (k : Q (ld M 92 2) M) : XW kX12_becomes d (some .int) (wQi Q) 77 [some (.inr (.inr 92)), some (.inl x1), some (.inl x2)] [] M := by
  refine x_aload_n rfl rfl ?_
  refine x_getI rfl sh92 rfl ?_
  exact x_ireturn rfl k
theorem eX12_fuse {d : Nat} {Q : Int → yM → Prop} {M : yM} {x1 : Int} {x2 : Int}  (h : XW kX12_fuse d (some .int) (wQi Q) 0 [some (.inr (.inr 92)), some (.inl x1), some (.inl x2), none, none, none, none, none] [] M) : XCi d 140 [.inr (.inr 92), .inl x1, .inl x2] M Q :=
  XC.ofW (Mm := (yX12_fuse, cX12_fuse, 8, (some .int), 13, kX12_fuse)) rfl (rcv_ok sh92) rfl rfl h
theorem uX12_fuse_0 {d : Nat} {Q : Int → yM → Prop} {M : yM} {x1 : Int} {x2 : Int} (k : ∀ M', M' = (put M 92 0 0) → XW kX12_fuse d (some .int) (wQi Q) 5 [some (.inr (.inr 92)), some (.inl x1), some (.inl x2), none, none, none, none, none] [] M') : XW kX12_fuse d (some .int) (wQi Q) 0 [some (.inr (.inr 92)), some (.inl x1), some (.inl x2), none, none, none, none, none] [] M := by
  refine x_aload_n rfl rfl ?_
  refine x_iconst 0 rfl (by decide) ?_
  refine x_putI rfl rfl sh92 rfl ?_
  exact k _ rfl
theorem uX12_fuse_5 {d : Nat} {Q : Int → yM → Prop} {M : yM} {x1 : Int} {x2 : Int} (k : XCi d 122 [.inr (.inr 92), .inl x1] M (fun v M' => XW kX12_fuse (d + 1) (some .int) (wQi Q) 10 [some (.inr (.inr 92)), some (.inl x1), some (.inl x2), none, none, none, none, none] [.inl v] M')) : XW kX12_fuse (d + 1) (some .int) (wQi Q) 5 [some (.inr (.inr 92)), some (.inl x1), some (.inl x2), none, none, none, none, none] [] M := by
  refine x_aload_n rfl rfl ?_
  refine x_iload_n rfl rfl ?_
  exact x_calli (args := [.inr (.inr 92), .inl x1]) rfl rfl rfl k
theorem uX12_fuse_10 {d : Nat} {Q : Int → yM → Prop} {M : yM} {x1 : Int} {x2 : Int} {s0 : Int} (h1 : -2147483648 ≤ s0 ∧ s0 < 2147483648) (kt : s0 = 0 → XW kX12_fuse d (some .int) (wQi Q) 26 [some (.inr (.inr 92)), some (.inl x1), some (.inl x2), none, none, none, none, none] [] M) (kf : s0 ≠ 0 → XW kX12_fuse d (some .int) (wQi Q) 13 [some (.inr (.inr 92)), some (.inl x1), some (.inl x2), none, none, none, none, none] [] M) : XW kX12_fuse d (some .int) (wQi Q) 10 [some (.inr (.inr 92)), some (.inl x1), some (.inl x2), none, none, none, none, none] [.inl s0] M := by
  exact x_ifeq rfl h1 kt kf
theorem uX12_fuse_13 {d : Nat} {Q : Int → yM → Prop} {M : yM} {x1 : Int} {x2 : Int} (k : XCi d 122 [.inr (.inr 92), .inl x2] M (fun v M' => XW kX12_fuse (d + 1) (some .int) (wQi Q) 18 [some (.inr (.inr 92)), some (.inl x1), some (.inl x2), none, none, none, none, none] [.inl v] M')) : XW kX12_fuse (d + 1) (some .int) (wQi Q) 13 [some (.inr (.inr 92)), some (.inl x1), some (.inl x2), none, none, none, none, none] [] M := by
  refine x_aload_n rfl rfl ?_
  refine x_iload_n rfl rfl ?_
  exact x_calli (args := [.inr (.inr 92), .inl x2]) rfl rfl rfl k
theorem uX12_fuse_18 {d : Nat} {Q : Int → yM → Prop} {M : yM} {x1 : Int} {x2 : Int} {s0 : Int} (h1 : -2147483648 ≤ s0 ∧ s0 < 2147483648) (kt : s0 = 0 → XW kX12_fuse d (some .int) (wQi Q) 26 [some (.inr (.inr 92)), some (.inl x1), some (.inl x2), none, none, none, none, none] [] M) (kf : s0 ≠ 0 → XW kX12_fuse d (some .int) (wQi Q) 21 [some (.inr (.inr 92)), some (.inl x1), some (.inl x2), none, none, none, none, none] [] M) : XW kX12_fuse d (some .int) (wQi Q) 18 [some (.inr (.inr 92)), some (.inl x1), some (.inl x2), none, none, none, none, none] [.inl s0] M := by
  exact x_ifeq rfl h1 kt kf
theorem uX12_fuse_21 {d : Nat} {Q : Int → yM → Prop} {M : yM} {x1 : Int} {x2 : Int} (h1 : -2147483648 ≤ x1 ∧ x1 < 2147483648) (h2 : -2147483648 ≤ x2 ∧ x2 < 2147483648) (kt : x1 ≠ x2 → XW kX12_fuse d (some .int) (wQi Q) 28 [some (.inr (.inr 92)), some (.inl x1), some (.inl x2), none, none, none, none, none] [] M) (kf : x1 = x2 → XW kX12_fuse d (some .int) (wQi Q) 26 [some (.inr (.inr 92)), some (.inl x1), some (.inl x2), none, none, none, none, none] [] M) : XW kX12_fuse d (some .int) (wQi Q) 21 [some (.inr (.inr 92)), some (.inl x1), some (.inl x2), none, none, none, none, none] [] M := by
  refine x_iload_n rfl rfl ?_
  refine x_iload_n rfl rfl ?_
  exact x_icmpne rfl h1 h2 kt kf
theorem uX12_fuse_26 {d : Nat} {Q : Int → yM → Prop} {M : yM} {x1 : Int} {x2 : Int} (k : Q (-1) M) : XW kX12_fuse d (some .int) (wQi Q) 26 [some (.inr (.inr 92)), some (.inl x1), some (.inl x2), none, none, none, none, none] [] M := by
  refine x_iconst (-1) rfl (by decide) ?_
  exact x_ireturn rfl k
theorem uX12_fuse_28 {d : Nat} {Q : Int → yM → Prop} {M : yM} {x1 : Int} {x2 : Int} (h1 : 0 ≤ x1 ∧ x1 < 8) (h2 : -2147483648 ≤ x2 ∧ x2 < 2147483648) (kt : (ld M 93 x1) = x2 → XW kX12_fuse d (some .int) (wQi Q) 71 [some (.inr (.inr 92)), some (.inl x1), some (.inl x2), none, none, none, none, none] [] M) (kf : (ld M 93 x1) ≠ x2 → XW kX12_fuse d (some .int) (wQi Q) 38 [some (.inr (.inr 92)), some (.inl x1), some (.inl x2), none, none, none, none, none] [] M) : XW kX12_fuse d (some .int) (wQi Q) 28 [some (.inr (.inr 92)), some (.inl x1), some (.inl x2), none, none, none, none, none] [] M := by
  refine x_aload_n rfl rfl ?_
  refine x_getR rfl sh92 rfl ?_
  refine x_iload_n rfl rfl ?_
  refine x_iaload rfl ⟨sh93, Nat.le_of_ble_eq_true rfl⟩ h1 ?_
  refine x_iload_n rfl rfl ?_
  exact x_icmpeq rfl (rng_ld _ _ _) h2 kt kf
theorem uX12_fuse_38 {d : Nat} {Q : Int → yM → Prop} {M : yM} {x1 : Int} {x2 : Int} (h1 : 0 ≤ x1 ∧ x1 < 8) (h2 : -2147483648 ≤ x1 ∧ x1 < 2147483648) (kt : (ld M 93 x1) ≠ x1 → XW kX12_fuse d (some .int) (wQi Q) 52 [some (.inr (.inr 92)), some (.inl x1), some (.inl x2), none, none, none, none, none] [] M) (kf : (ld M 93 x1) = x1 → XW kX12_fuse d (some .int) (wQi Q) 48 [some (.inr (.inr 92)), some (.inl x1), some (.inl x2), none, none, none, none, none] [] M) : XW kX12_fuse d (some .int) (wQi Q) 38 [some (.inr (.inr 92)), some (.inl x1), some (.inl x2), none, none, none, none, none] [] M := by
  refine x_aload_n rfl rfl ?_
  refine x_getR rfl sh92 rfl ?_
  refine x_iload_n rfl rfl ?_
  refine x_iaload rfl ⟨sh93, Nat.le_of_ble_eq_true rfl⟩ h1 ?_
  refine x_iload_n rfl rfl ?_
  exact x_icmpne rfl (rng_ld _ _ _) h2 kt kf
theorem uX12_fuse_48 {d : Nat} {Q : Int → yM → Prop} {M : yM} {x1 : Int} {x2 : Int} (k : XW kX12_fuse d (some .int) (wQi Q) 53 [some (.inr (.inr 92)), some (.inl x1), some (.inl x2), none, none, none, none, none] [.inl 1] M) : XW kX12_fuse d (some .int) (wQi Q) 48 [some (.inr (.inr 92)), some (.inl x1), some (.inl x2), none, none, none, none, none] [] M := by
  refine x_iconst 1 rfl (by decide) ?_
  exact x_goto rfl k
theorem uX12_fuse_52 {d : Nat} {Q : Int → yM → Prop} {M : yM} {x1 : Int} {x2 : Int} (k : XW kX12_fuse d (some .int) (wQi Q) 53 [some (.inr (.inr 92)), some (.inl x1), some (.inl x2), none, none, none, none, none] [.inl 0] M) : XW kX12_fuse d (some .int) (wQi Q) 52 [some (.inr (.inr 92)), some (.inl x1), some (.inl x2), none, none, none, none, none] [] M := by
  refine x_iconst 0 rfl (by decide) ?_
  exact k
theorem uX12_fuse_53 {d : Nat} {Q : Int → yM → Prop} {M : yM} {x1 : Int} {x2 : Int} {s0 : Int} (h1 : 0 ≤ x2 ∧ x2 < 8) (h2 : -2147483648 ≤ x2 ∧ x2 < 2147483648) (kt : (ld M 93 x2) ≠ x2 → XW kX12_fuse d (some .int) (wQi Q) 67 [some (.inr (.inr 92)), some (.inl x1), some (.inl x2), none, none, none, none, none] [.inl s0] M) (kf : (ld M 93 x2) = x2 → XW kX12_fuse d (some .int) (wQi Q) 63 [some (.inr (.inr 92)), some (.inl x1), some (.inl x2), none, none, none, none, none] [.inl s0] M) : XW kX12_fuse d (some .int) (wQi Q) 53 [some (.inr (.inr 92)), some (.inl x1), some (.inl x2), none, none, none, none, none] [.inl s0] M := by
  refine x_aload_n rfl rfl ?_
  refine x_getR rfl sh92 rfl ?_
  refine x_iload_n rfl rfl ?_
  refine x_iaload rfl ⟨sh93, Nat.le_of_ble_eq_true rfl⟩ h1 ?_
  refine x_iload_n rfl rfl ?_
  exact x_icmpne rfl (rng_ld _ _ _) h2 kt kf
theorem uX12_fuse_63 {d : Nat} {Q : Int → yM → Prop} {M : yM} {x1 : Int} {x2 : Int} {s0 : Int} (k : XW kX12_fuse d (some .int) (wQi Q) 68 [some (.inr (.inr 92)), some (.inl x1), some (.inl x2), none, none, none, none, none] [.inl 1, .inl s0] M) : XW kX12_fuse d (some .int) (wQi Q) 63 [some (.inr (.inr 92)), some (.inl x1), some (.inl x2), none, none, none, none, none] [.inl s0] M := by
  refine x_iconst 1 rfl (by decide) ?_
  exact x_goto rfl k
theorem uX12_fuse_67 {d : Nat} {Q : Int → yM → Prop} {M : yM} {x1 : Int} {x2 : Int} {s0 : Int} (k : XW kX12_fuse d (some .int) (wQi Q) 68 [some (.inr (.inr 92)), some (.inl x1), some (.inl x2), none, none, none, none, none] [.inl 0, .inl s0] M) : XW kX12_fuse d (some .int) (wQi Q) 67 [some (.inr (.inr 92)), some (.inl x1), some (.inl x2), none, none, none, none, none] [.inl s0] M := by
  refine x_iconst 0 rfl (by decide) ?_
  exact k
theorem uX12_fuse_68 {d : Nat} {Q : Int → yM → Prop} {M : yM} {x1 : Int} {x2 : Int} {s0 : Int} {s1 : Int} (h1 : -2147483648 ≤ s1 ∧ s1 < 2147483648) (h2 : -2147483648 ≤ s0 ∧ s0 < 2147483648) (kt : s1 = s0 → XW kX12_fuse d (some .int) (wQi Q) 74 [some (.inr (.inr 92)), some (.inl x1), some (.inl x2), none, none, none, none, none] [] M) (kf : s1 ≠ s0 → XW kX12_fuse d (some .int) (wQi Q) 71 [some (.inr (.inr 92)), some (.inl x1), some (.inl x2), none, none, none, none, none] [] M) : XW kX12_fuse d (some .int) (wQi Q) 68 [some (.inr (.inr 92)), some (.inl x1), some (.inl x2), none, none, none, none, none] [.inl s0, .inl s1] M := by
  exact x_icmpeq rfl h1 h2 kt kf
theorem uX12_fuse_71 {d : Nat} {Q : Int → yM → Prop} {M : yM} {x1 : Int} {x2 : Int} (k : Q (-2) M) : XW kX12_fuse d (some .int) (wQi Q) 71 [some (.inr (.inr 92)), some (.inl x1), some (.inl x2), none, none, none, none, none] [] M := by
  refine x_bipush (-2) rfl (by decide) ?_
  exact x_ireturn rfl k
theorem uX12_fuse_74 {d : Nat} {Q : Int → yM → Prop} {M : yM} {x1 : Int} {x2 : Int} (k : XW kX12_fuse d (some .int) (wQi Q) 79 [some (.inr (.inr 92)), some (.inl x1), some (.inl x2), some (.inl 0), some (.inl 0), none, none, none] [] M) : XW kX12_fuse d (some .int) (wQi Q) 74 [some (.inr (.inr 92)), some (.inl x1), some (.inl x2), none, none, none, none, none] [] M := by
  refine x_iconst 0 rfl (by decide) ?_
  refine x_istore_n rfl (Nat.le_of_ble_eq_true rfl) rfl ?_
  refine x_iconst 0 rfl (by decide) ?_
  refine x_istore rfl (Nat.le_of_ble_eq_true rfl) rfl ?_
  exact k
theorem uX12_fuse_79 {d : Nat} {Q : Int → yM → Prop} {M : yM} {x1 : Int} {x2 : Int} {x3 : Int} {x4 : Int} {wx5 : Option yV} {wx6 : Option yV} {wx7 : Option yV} (h1 : -2147483648 ≤ x4 ∧ x4 < 2147483648) (kt : x4 ≥ (ld M 92 2) → XW kX12_fuse d (some .int) (wQi Q) 250 [some (.inr (.inr 92)), some (.inl x1), some (.inl x2), some (.inl x3), some (.inl x4), wx5, wx6, wx7] [] M) (kf : x4 < (ld M 92 2) → XW kX12_fuse d (some .int) (wQi Q) 88 [some (.inr (.inr 92)), some (.inl x1), some (.inl x2), some (.inl x3), some (.inl x4), wx5, wx6, wx7] [] M) : XW kX12_fuse d (some .int) (wQi Q) 79 [some (.inr (.inr 92)), some (.inl x1), some (.inl x2), some (.inl x3), some (.inl x4), wx5, wx6, wx7] [] M := by
  refine x_iload rfl rfl ?_
  refine x_aload_n rfl rfl ?_
  refine x_getI rfl sh92 rfl ?_
  exact x_icmpge rfl h1 (rng_ld _ _ _) kt kf
theorem uX12_fuse_88 {d : Nat} {Q : Int → yM → Prop} {M : yM} {x1 : Int} {x2 : Int} {x3 : Int} {x4 : Int} {wx5 : Option yV} {wx6 : Option yV} {wx7 : Option yV} (k : XW kX12_fuse d (some .int) (wQi Q) 95 [some (.inr (.inr 92)), some (.inl x1), some (.inl x2), some (.inl x3), some (.inl x4), some (.inl x4), some (.inl 0), wx7] [] M) : XW kX12_fuse d (some .int) (wQi Q) 88 [some (.inr (.inr 92)), some (.inl x1), some (.inl x2), some (.inl x3), some (.inl x4), wx5, wx6, wx7] [] M := by
  refine x_iload rfl rfl ?_
  refine x_istore rfl (Nat.le_of_ble_eq_true rfl) rfl ?_
  refine x_iconst 0 rfl (by decide) ?_
  refine x_istore rfl (Nat.le_of_ble_eq_true rfl) rfl ?_
  exact k
theorem uX12_fuse_95 {d : Nat} {Q : Int → yM → Prop} {M : yM} {x1 : Int} {x2 : Int} {x3 : Int} {x4 : Int} {x5 : Int} {x6 : Int} {wx7 : Option yV} (h1 : -2147483648 ≤ x6 ∧ x6 < 2147483648) (h2 : -2147483648 ≤ x4 ∧ x4 < 2147483648) (kt : x6 ≥ x4 → XW kX12_fuse d (some .int) (wQi Q) 204 [some (.inr (.inr 92)), some (.inl x1), some (.inl x2), some (.inl x3), some (.inl x4), some (.inl x5), some (.inl x6), wx7] [] M) (kf : x6 < x4 → XW kX12_fuse d (some .int) (wQi Q) 102 [some (.inr (.inr 92)), some (.inl x1), some (.inl x2), some (.inl x3), some (.inl x4), some (.inl x5), some (.inl x6), wx7] [] M) : XW kX12_fuse d (some .int) (wQi Q) 95 [some (.inr (.inr 92)), some (.inl x1), some (.inl x2), some (.inl x3), some (.inl x4), some (.inl x5), some (.inl x6), wx7] [] M := by
  refine x_iload rfl rfl ?_
  refine x_iload rfl rfl ?_
  exact x_icmpge rfl h1 h2 kt kf
theorem uX12_fuse_102 {d : Nat} {Q : Int → yM → Prop} {M : yM} {x1 : Int} {x2 : Int} {x3 : Int} {x4 : Int} {x5 : Int} {x6 : Int} {wx7 : Option yV} (h1 : -2147483648 ≤ x4 ∧ x4 < 2147483648) (h2 : -2147483648 ≤ x1 ∧ x1 < 2147483648) (kt : x4 = x1 → XW kX12_fuse d (some .int) (wQi Q) 114 [some (.inr (.inr 92)), some (.inl x1), some (.inl x2), some (.inl x3), some (.inl x4), some (.inl x5), some (.inl x6), wx7] [] M) (kf : x4 ≠ x1 → XW kX12_fuse d (some .int) (wQi Q) 108 [some (.inr (.inr 92)), some (.inl x1), some (.inl x2), some (.inl x3), some (.inl x4), some (.inl x5), some (.inl x6), wx7] [] M) : XW kX12_fuse d (some .int) (wQi Q) 102 [some (.inr (.inr 92)), some (.inl x1), some (.inl x2), some (.inl x3), some (.inl x4), some (.inl x5), some (.inl x6), wx7] [] M := by
  refine x_iload rfl rfl ?_
  refine x_iload_n rfl rfl ?_
  exact x_icmpeq rfl h1 h2 kt kf
theorem uX12_fuse_108 {d : Nat} {Q : Int → yM → Prop} {M : yM} {x1 : Int} {x2 : Int} {x3 : Int} {x4 : Int} {x5 : Int} {x6 : Int} {wx7 : Option yV} (h1 : -2147483648 ≤ x4 ∧ x4 < 2147483648) (h2 : -2147483648 ≤ x2 ∧ x2 < 2147483648) (kt : x4 ≠ x2 → XW kX12_fuse d (some .int) (wQi Q) 126 [some (.inr (.inr 92)), some (.inl x1), some (.inl x2), some (.inl x3), some (.inl x4), some (.inl x5), some (.inl x6), wx7] [] M) (kf : x4 = x2 → XW kX12_fuse d (some .int) (wQi Q) 114 [some (.inr (.inr 92)), some (.inl x1), some (.inl x2), some (.inl x3), some (.inl x4), some (.inl x5), some (.inl x6), wx7] [] M) : XW kX12_fuse d (some .int) (wQi Q) 108 [some (.inr (.inr 92)), some (.inl x1), some (.inl x2), some (.inl x3), some (.inl x4), some (.inl x5), some (.inl x6), wx7] [] M := by
  refine x_iload rfl rfl ?_
  refine x_iload_n rfl rfl ?_
  exact x_icmpne rfl h1 h2 kt kf
theorem uX12_fuse_114 {d : Nat} {Q : Int → yM → Prop} {M : yM} {x1 : Int} {x2 : Int} {x3 : Int} {x4 : Int} {x5 : Int} {x6 : Int} {wx7 : Option yV} (h1 : -2147483648 ≤ x6 ∧ x6 < 2147483648) (h2 : -2147483648 ≤ x1 ∧ x1 < 2147483648) (kt : x6 = x1 → XW kX12_fuse d (some .int) (wQi Q) 170 [some (.inr (.inr 92)), some (.inl x1), some (.inl x2), some (.inl x3), some (.inl x4), some (.inl x5), some (.inl x6), wx7] [] M) (kf : x6 ≠ x1 → XW kX12_fuse d (some .int) (wQi Q) 120 [some (.inr (.inr 92)), some (.inl x1), some (.inl x2), some (.inl x3), some (.inl x4), some (.inl x5), some (.inl x6), wx7] [] M) : XW kX12_fuse d (some .int) (wQi Q) 114 [some (.inr (.inr 92)), some (.inl x1), some (.inl x2), some (.inl x3), some (.inl x4), some (.inl x5), some (.inl x6), wx7] [] M := by
  refine x_iload rfl rfl ?_
  refine x_iload_n rfl rfl ?_
  exact x_icmpeq rfl h1 h2 kt kf
theorem uX12_fuse_120 {d : Nat} {Q : Int → yM → Prop} {M : yM} {x1 : Int} {x2 : Int} {x3 : Int} {x4 : Int} {x5 : Int} {x6 : Int} {wx7 : Option yV} (h1 : -2147483648 ≤ x6 ∧ x6 < 2147483648) (h2 : -2147483648 ≤ x2 ∧ x2 < 2147483648) (kt : x6 = x2 → XW kX12_fuse d (some .int) (wQi Q) 170 [some (.inr (.inr 92)), some (.inl x1), some (.inl x2), some (.inl x3), some (.inl x4), some (.inl x5), some (.inl x6), wx7] [] M) (kf : x6 ≠ x2 → XW kX12_fuse d (some .int) (wQi Q) 126 [some (.inr (.inr 92)), some (.inl x1), some (.inl x2), some (.inl x3), some (.inl x4), some (.inl x5), some (.inl x6), wx7] [] M) : XW kX12_fuse d (some .int) (wQi Q) 120 [some (.inr (.inr 92)), some (.inl x1), some (.inl x2), some (.inl x3), some (.inl x4), some (.inl x5), some (.inl x6), wx7] [] M := by
  refine x_iload rfl rfl ?_
  refine x_iload_n rfl rfl ?_
  exact x_icmpeq rfl h1 h2 kt kf
theorem uX12_fuse_126 {d : Nat} {Q : Int → yM → Prop} {M : yM} {x1 : Int} {x2 : Int} {x3 : Int} {x4 : Int} {x5 : Int} {x6 : Int} {wx7 : Option yV} (h1 : 0 ≤ x1 ∧ x1 < 8) (h2 : -2147483648 ≤ x4 ∧ x4 < 2147483648) (kt : x4 = (ld M 93 x1) → XW kX12_fuse d (some .int) (wQi Q) 148 [some (.inr (.inr 92)), some (.inl x1), some (.inl x2), some (.inl x3), some (.inl x4), some (.inl x5), some (.inl x6), wx7] [] M) (kf : x4 ≠ (ld M 93 x1) → XW kX12_fuse d (some .int) (wQi Q) 137 [some (.inr (.inr 92)), some (.inl x1), some (.inl x2), some (.inl x3), some (.inl x4), some (.inl x5), some (.inl x6), wx7] [] M) : XW kX12_fuse d (some .int) (wQi Q) 126 [some (.inr (.inr 92)), some (.inl x1), some (.inl x2), some (.inl x3), some (.inl x4), some (.inl x5), some (.inl x6), wx7] [] M := by
  refine x_iload rfl rfl ?_
  refine x_aload_n rfl rfl ?_
  refine x_getR rfl sh92 rfl ?_
  refine x_iload_n rfl rfl ?_
  refine x_iaload rfl ⟨sh93, Nat.le_of_ble_eq_true rfl⟩ h1 ?_
  exact x_icmpeq rfl h2 (rng_ld _ _ _) kt kf
theorem uX12_fuse_137 {d : Nat} {Q : Int → yM → Prop} {M : yM} {x1 : Int} {x2 : Int} {x3 : Int} {x4 : Int} {x5 : Int} {x6 : Int} {wx7 : Option yV} (h1 : 0 ≤ x2 ∧ x2 < 8) (h2 : -2147483648 ≤ x4 ∧ x4 < 2147483648) (kt : x4 ≠ (ld M 93 x2) → XW kX12_fuse d (some .int) (wQi Q) 174 [some (.inr (.inr 92)), some (.inl x1), some (.inl x2), some (.inl x3), some (.inl x4), some (.inl x5), some (.inl x6), wx7] [] M) (kf : x4 = (ld M 93 x2) → XW kX12_fuse d (some .int) (wQi Q) 148 [some (.inr (.inr 92)), some (.inl x1), some (.inl x2), some (.inl x3), some (.inl x4), some (.inl x5), some (.inl x6), wx7] [] M) : XW kX12_fuse d (some .int) (wQi Q) 137 [some (.inr (.inr 92)), some (.inl x1), some (.inl x2), some (.inl x3), some (.inl x4), some (.inl x5), some (.inl x6), wx7] [] M := by
  refine x_iload rfl rfl ?_
  refine x_aload_n rfl rfl ?_
  refine x_getR rfl sh92 rfl ?_
  refine x_iload_n rfl rfl ?_
  refine x_iaload rfl ⟨sh93, Nat.le_of_ble_eq_true rfl⟩ h1 ?_
  exact x_icmpne rfl h2 (rng_ld _ _ _) kt kf
theorem uX12_fuse_148 {d : Nat} {Q : Int → yM → Prop} {M : yM} {x1 : Int} {x2 : Int} {x3 : Int} {x4 : Int} {x5 : Int} {x6 : Int} {wx7 : Option yV} (h1 : 0 ≤ x1 ∧ x1 < 8) (h2 : -2147483648 ≤ x6 ∧ x6 < 2147483648) (kt : x6 = (ld M 93 x1) → XW kX12_fuse d (some .int) (wQi Q) 170 [some (.inr (.inr 92)), some (.inl x1), some (.inl x2), some (.inl x3), some (.inl x4), some (.inl x5), some (.inl x6), wx7] [] M) (kf : x6 ≠ (ld M 93 x1) → XW kX12_fuse d (some .int) (wQi Q) 159 [some (.inr (.inr 92)), some (.inl x1), some (.inl x2), some (.inl x3), some (.inl x4), some (.inl x5), some (.inl x6), wx7] [] M) : XW kX12_fuse d (some .int) (wQi Q) 148 [some (.inr (.inr 92)), some (.inl x1), some (.inl x2), some (.inl x3), some (.inl x4), some (.inl x5), some (.inl x6), wx7] [] M := by
  refine x_iload rfl rfl ?_
  refine x_aload_n rfl rfl ?_
  refine x_getR rfl sh92 rfl ?_
  refine x_iload_n rfl rfl ?_
  refine x_iaload rfl ⟨sh93, Nat.le_of_ble_eq_true rfl⟩ h1 ?_
  exact x_icmpeq rfl h2 (rng_ld _ _ _) kt kf
theorem uX12_fuse_159 {d : Nat} {Q : Int → yM → Prop} {M : yM} {x1 : Int} {x2 : Int} {x3 : Int} {x4 : Int} {x5 : Int} {x6 : Int} {wx7 : Option yV} (h1 : 0 ≤ x2 ∧ x2 < 8) (h2 : -2147483648 ≤ x6 ∧ x6 < 2147483648) (kt : x6 ≠ (ld M 93 x2) → XW kX12_fuse d (some .int) (wQi Q) 174 [some (.inr (.inr 92)), some (.inl x1), some (.inl x2), some (.inl x3), some (.inl x4), some (.inl x5), some (.inl x6), wx7] [] M) (kf : x6 = (ld M 93 x2) → XW kX12_fuse d (some .int) (wQi Q) 170 [some (.inr (.inr 92)), some (.inl x1), some (.inl x2), some (.inl x3), some (.inl x4), some (.inl x5), some (.inl x6), wx7] [] M) : XW kX12_fuse d (some .int) (wQi Q) 159 [some (.inr (.inr 92)), some (.inl x1), some (.inl x2), some (.inl x3), some (.inl x4), some (.inl x5), some (.inl x6), wx7] [] M := by
  refine x_iload rfl rfl ?_
  refine x_aload_n rfl rfl ?_
  refine x_getR rfl sh92 rfl ?_
  refine x_iload_n rfl rfl ?_
  refine x_iaload rfl ⟨sh93, Nat.le_of_ble_eq_true rfl⟩ h1 ?_
  exact x_icmpne rfl h2 (rng_ld _ _ _) kt kf
theorem uX12_fuse_170 {d : Nat} {Q : Int → yM → Prop} {M : yM} {x1 : Int} {x2 : Int} {x3 : Int} {x4 : Int} {x5 : Int} {x6 : Int} {wx7 : Option yV} (k : XW kX12_fuse d (some .int) (wQi Q) 175 [some (.inr (.inr 92)), some (.inl x1), some (.inl x2), some (.inl x3), some (.inl x4), some (.inl x5), some (.inl x6), wx7] [.inl 1] M) : XW kX12_fuse d (some .int) (wQi Q) 170 [some (.inr (.inr 92)), some (.inl x1), some (.inl x2), some (.inl x3), some (.inl x4), some (.inl x5), some (.inl x6), wx7] [] M := by
  refine x_iconst 1 rfl (by decide) ?_
  exact x_goto rfl k
theorem uX12_fuse_174 {d : Nat} {Q : Int → yM → Prop} {M : yM} {x1 : Int} {x2 : Int} {x3 : Int} {x4 : Int} {x5 : Int} {x6 : Int} {wx7 : Option yV} (k : XW kX12_fuse d (some .int) (wQi Q) 175 [some (.inr (.inr 92)), some (.inl x1), some (.inl x2), some (.inl x3), some (.inl x4), some (.inl x5), some (.inl x6), wx7] [.inl 0] M) : XW kX12_fuse d (some .int) (wQi Q) 174 [some (.inr (.inr 92)), some (.inl x1), some (.inl x2), some (.inl x3), some (.inl x4), some (.inl x5), some (.inl x6), wx7] [] M := by
  refine x_iconst 0 rfl (by decide) ?_
  exact k
theorem uX12_fuse_175 {d : Nat} {Q : Int → yM → Prop} {M : yM} {x1 : Int} {x2 : Int} {x3 : Int} {x4 : Int} {x5 : Int} {x6 : Int} {wx7 : Option yV} {s0 : Int} (h1 : -2147483648 ≤ s0 ∧ s0 < 2147483648) (kt : s0 = 0 → XW kX12_fuse d (some .int) (wQi Q) 194 [some (.inr (.inr 92)), some (.inl x1), some (.inl x2), some (.inl x3), some (.inl x4), some (.inl x5), some (.inl x6), some (.inl s0)] [] M) (kf : s0 ≠ 0 → XW kX12_fuse d (some .int) (wQi Q) 182 [some (.inr (.inr 92)), some (.inl x1), some (.inl x2), some (.inl x3), some (.inl x4), some (.inl x5), some (.inl x6), some (.inl s0)] [] M) : XW kX12_fuse d (some .int) (wQi Q) 175 [some (.inr (.inr 92)), some (.inl x1), some (.inl x2), some (.inl x3), some (.inl x4), some (.inl x5), some (.inl x6), wx7] [.inl s0] M := by
  refine x_istore rfl (Nat.le_of_ble_eq_true rfl) rfl ?_
  refine x_iload rfl rfl ?_
  exact x_ifeq rfl h1 kt kf
theorem uX12_fuse_182 {d : Nat} {Q : Int → yM → Prop} {M : yM} {x1 : Int} {x2 : Int} {x3 : Int} {x4 : Int} {x5 : Int} {x6 : Int} {x7 : Int} (h1 : -2147483648 ≤ x5 ∧ x5 < 2147483648) (h2 : -2147483648 ≤ x4 ∧ x4 < 2147483648) (kt : x5 ≠ x4 → XW kX12_fuse d (some .int) (wQi Q) 194 [some (.inr (.inr 92)), some (.inl x1), some (.inl x2), some (.inl x3), some (.inl x4), some (.inl x5), some (.inl x6), some (.inl x7)] [] M) (kf : x5 = x4 → XW kX12_fuse d (some .int) (wQi Q) 189 [some (.inr (.inr 92)), some (.inl x1), some (.inl x2), some (.inl x3), some (.inl x4), some (.inl x5), some (.inl x6), some (.inl x7)] [] M) : XW kX12_fuse d (some .int) (wQi Q) 182 [some (.inr (.inr 92)), some (.inl x1), some (.inl x2), some (.inl x3), some (.inl x4), some (.inl x5), some (.inl x6), some (.inl x7)] [] M := by
  refine x_iload rfl rfl ?_
  refine x_iload rfl rfl ?_
  exact x_icmpne rfl h1 h2 kt kf
theorem uX12_fuse_189 {d : Nat} {Q : Int → yM → Prop} {M : yM} {x1 : Int} {x2 : Int} {x3 : Int} {x4 : Int} {x5 : Int} {x6 : Int} {x7 : Int} (k : XW kX12_fuse d (some .int) (wQi Q) 196 [some (.inr (.inr 92)), some (.inl x1), some (.inl x2), some (.inl x3), some (.inl x4), some (.inl x5), some (.inl x6), some (.inl x7)] [.inl x6] M) : XW kX12_fuse d (some .int) (wQi Q) 189 [some (.inr (.inr 92)), some (.inl x1), some (.inl x2), some (.inl x3), some (.inl x4), some (.inl x5), some (.inl x6), some (.inl x7)] [] M := by
  refine x_iload rfl rfl ?_
  exact x_goto rfl k
theorem uX12_fuse_194 {d : Nat} {Q : Int → yM → Prop} {M : yM} {x1 : Int} {x2 : Int} {x3 : Int} {x4 : Int} {x5 : Int} {x6 : Int} {x7 : Int} (k : XW kX12_fuse d (some .int) (wQi Q) 196 [some (.inr (.inr 92)), some (.inl x1), some (.inl x2), some (.inl x3), some (.inl x4), some (.inl x5), some (.inl x6), some (.inl x7)] [.inl x5] M) : XW kX12_fuse d (some .int) (wQi Q) 194 [some (.inr (.inr 92)), some (.inl x1), some (.inl x2), some (.inl x3), some (.inl x4), some (.inl x5), some (.inl x6), some (.inl x7)] [] M := by
  refine x_iload rfl rfl ?_
  exact k
theorem uX12_fuse_196 {d : Nat} {Q : Int → yM → Prop} {M : yM} {x1 : Int} {x2 : Int} {x3 : Int} {x4 : Int} {x5 : Int} {x6 : Int} {x7 : Int} {s0 : Int} (k : XW kX12_fuse d (some .int) (wQi Q) 95 [some (.inr (.inr 92)), some (.inl x1), some (.inl x2), some (.inl x3), some (.inl x4), some (.inl s0), some (.inl (x6 + 1)), some (.inl x7)] [] M) : XW kX12_fuse d (some .int) (wQi Q) 196 [some (.inr (.inr 92)), some (.inl x1), some (.inl x2), some (.inl x3), some (.inl x4), some (.inl x5), some (.inl x6), some (.inl x7)] [.inl s0] M := by
  refine x_istore rfl (Nat.le_of_ble_eq_true rfl) rfl ?_
  refine x_iinc 1 rfl (by decide) rfl rfl ?_
  exact x_goto rfl k
theorem uX12_fuse_204 {d : Nat} {Q : Int → yM → Prop} {M : yM} {x1 : Int} {x2 : Int} {x3 : Int} {x4 : Int} {x5 : Int} {x6 : Int} {wx7 : Option yV} (h1 : -2147483648 ≤ x5 ∧ x5 < 2147483648) (h2 : -2147483648 ≤ x4 ∧ x4 < 2147483648) (kt : x5 ≠ x4 → XW kX12_fuse d (some .int) (wQi Q) 221 [some (.inr (.inr 92)), some (.inl x1), some (.inl x2), some (.inl x3), some (.inl x4), some (.inl x5), some (.inl x6), wx7] [.inl x4, .inr (.inr 99)] M) (kf : x5 = x4 → XW kX12_fuse d (some .int) (wQi Q) 217 [some (.inr (.inr 92)), some (.inl x1), some (.inl x2), some (.inl x3), some (.inl x4), some (.inl x5), some (.inl x6), wx7] [.inl x4, .inr (.inr 99)] M) : XW kX12_fuse d (some .int) (wQi Q) 204 [some (.inr (.inr 92)), some (.inl x1), some (.inl x2), some (.inl x3), some (.inl x4), some (.inl x5), some (.inl x6), wx7] [] M := by
  refine x_aload_n rfl rfl ?_
  refine x_getR rfl sh92 rfl ?_
  refine x_iload rfl rfl ?_
  refine x_iload rfl rfl ?_
  refine x_iload rfl rfl ?_
  exact x_icmpne rfl h1 h2 kt kf
theorem uX12_fuse_217 {d : Nat} {Q : Int → yM → Prop} {M : yM} {x1 : Int} {x2 : Int} {x3 : Int} {x4 : Int} {x5 : Int} {x6 : Int} {wx7 : Option yV} {s0 : Int} (k : XW kX12_fuse d (some .int) (wQi Q) 228 [some (.inr (.inr 92)), some (.inl x1), some (.inl x2), some (.inl x3), some (.inl x4), some (.inl x5), some (.inl x6), wx7] [.inl x3, .inl s0, .inr (.inr 99)] M) : XW kX12_fuse d (some .int) (wQi Q) 217 [some (.inr (.inr 92)), some (.inl x1), some (.inl x2), some (.inl x3), some (.inl x4), some (.inl x5), some (.inl x6), wx7] [.inl s0, .inr (.inr 99)] M := by
  refine x_iload_n rfl rfl ?_
  exact x_goto rfl k
theorem uX12_fuse_221 {d : Nat} {Q : Int → yM → Prop} {M : yM} {x1 : Int} {x2 : Int} {x3 : Int} {x4 : Int} {x5 : Int} {x6 : Int} {wx7 : Option yV} {s0 : Int} (h1 : 0 ≤ x5 ∧ x5 < 8) (k : XW kX12_fuse d (some .int) (wQi Q) 228 [some (.inr (.inr 92)), some (.inl x1), some (.inl x2), some (.inl x3), some (.inl x4), some (.inl x5), some (.inl x6), wx7] [.inl (ld M 99 x5), .inl s0, .inr (.inr 99)] M) : XW kX12_fuse d (some .int) (wQi Q) 221 [some (.inr (.inr 92)), some (.inl x1), some (.inl x2), some (.inl x3), some (.inl x4), some (.inl x5), some (.inl x6), wx7] [.inl s0, .inr (.inr 99)] M := by
  refine x_aload_n rfl rfl ?_
  refine x_getR rfl sh92 rfl ?_
  refine x_iload rfl rfl ?_
  refine x_iaload rfl ⟨sh99, Nat.le_of_ble_eq_true rfl⟩ h1 ?_
  exact k
theorem uX12_fuse_228 {d : Nat} {Q : Int → yM → Prop} {M : yM} {x1 : Int} {x2 : Int} {x3 : Int} {x4 : Int} {x5 : Int} {x6 : Int} {wx7 : Option yV} {s0 : Int} {s1 : Int} (h1 : 0 ≤ s1 ∧ s1 < 8) (k : ∀ M', M' = (put M 99 s1 s0) → XW kX12_fuse d (some .int) (wQi Q) 229 [some (.inr (.inr 92)), some (.inl x1), some (.inl x2), some (.inl x3), some (.inl x4), some (.inl x5), some (.inl x6), wx7] [] M') : XW kX12_fuse d (some .int) (wQi Q) 228 [some (.inr (.inr 92)), some (.inl x1), some (.inl x2), some (.inl x3), some (.inl x4), some (.inl x5), some (.inl x6), wx7] [.inl s0, .inl s1, .inr (.inr 99)] M := by
  refine x_iastore rfl ⟨sh99, Nat.le_of_ble_eq_true rfl⟩ h1  ?_
  exact k _ rfl
theorem uX12_fuse_229 {d : Nat} {Q : Int → yM → Prop} {M : yM} {x1 : Int} {x2 : Int} {x3 : Int} {x4 : Int} {x5 : Int} {x6 : Int} {wx7 : Option yV} (h1 : -2147483648 ≤ x5 ∧ x5 < 2147483648) (h2 : -2147483648 ≤ x4 ∧ x4 < 2147483648) (kt : x5 ≠ x4 → XW kX12_fuse d (some .int) (wQi Q) 241 [some (.inr (.inr 92)), some (.inl x1), some (.inl x2), some (.inl x3), some (.inl x4), some (.inl x5), some (.inl x6), wx7] [.inl x3] M) (kf : x5 = x4 → XW kX12_fuse d (some .int) (wQi Q) 237 [some (.inr (.inr 92)), some (.inl x1), some (.inl x2), some (.inl x3), some (.inl x4), some (.inl x5), some (.inl x6), wx7] [.inl x3] M) : XW kX12_fuse d (some .int) (wQi Q) 229 [some (.inr (.inr 92)), some (.inl x1), some (.inl x2), some (.inl x3), some (.inl x4), some (.inl x5), some (.inl x6), wx7] [] M := by
  refine x_iload_n rfl rfl ?_
  refine x_iload rfl rfl ?_
  refine x_iload rfl rfl ?_
  exact x_icmpne rfl h1 h2 kt kf
theorem uX12_fuse_237 {d : Nat} {Q : Int → yM → Prop} {M : yM} {x1 : Int} {x2 : Int} {x3 : Int} {x4 : Int} {x5 : Int} {x6 : Int} {wx7 : Option yV} {s0 : Int} (k : XW kX12_fuse d (some .int) (wQi Q) 242 [some (.inr (.inr 92)), some (.inl x1), some (.inl x2), some (.inl x3), some (.inl x4), some (.inl x5), some (.inl x6), wx7] [.inl 1, .inl s0] M) : XW kX12_fuse d (some .int) (wQi Q) 237 [some (.inr (.inr 92)), some (.inl x1), some (.inl x2), some (.inl x3), some (.inl x4), some (.inl x5), some (.inl x6), wx7] [.inl s0] M := by
  refine x_iconst 1 rfl (by decide) ?_
  exact x_goto rfl k
theorem uX12_fuse_241 {d : Nat} {Q : Int → yM → Prop} {M : yM} {x1 : Int} {x2 : Int} {x3 : Int} {x4 : Int} {x5 : Int} {x6 : Int} {wx7 : Option yV} {s0 : Int} (k : XW kX12_fuse d (some .int) (wQi Q) 242 [some (.inr (.inr 92)), some (.inl x1), some (.inl x2), some (.inl x3), some (.inl x4), some (.inl x5), some (.inl x6), wx7] [.inl 0, .inl s0] M) : XW kX12_fuse d (some .int) (wQi Q) 241 [some (.inr (.inr 92)), some (.inl x1), some (.inl x2), some (.inl x3), some (.inl x4), some (.inl x5), some (.inl x6), wx7] [.inl s0] M := by
  refine x_iconst 0 rfl (by decide) ?_
  exact k
theorem uX12_fuse_242 {d : Nat} {Q : Int → yM → Prop} {M : yM} {x1 : Int} {x2 : Int} {x3 : Int} {x4 : Int} {x5 : Int} {x6 : Int} {wx7 : Option yV} {s0 : Int} {s1 : Int} (k : XW kX12_fuse d (some .int) (wQi Q) 79 [some (.inr (.inr 92)), some (.inl x1), some (.inl x2), some (.inl (s1 + s0)), some (.inl (x4 + 1)), some (.inl x5), some (.inl x6), wx7] [] M) : XW kX12_fuse d (some .int) (wQi Q) 242 [some (.inr (.inr 92)), some (.inl x1), some (.inl x2), some (.inl x3), some (.inl x4), some (.inl x5), some (.inl x6), wx7] [.inl s0, .inl s1] M := by
  refine x_iadd rfl ?_
  refine x_istore_n rfl (Nat.le_of_ble_eq_true rfl) rfl ?_
  refine x_iinc 1 rfl (by decide) rfl rfl ?_
  exact x_goto rfl k
theorem uX12_fuse_250 {d : Nat} {Q : Int → yM → Prop} {M : yM} {x1 : Int} {x2 : Int} {x3 : Int} {x4 : Int} {wx5 : Option yV} {wx6 : Option yV} {wx7 : Option yV} (k : XW kX12_fuse d (some .int) (wQi Q) 253 [some (.inr (.inr 92)), some (.inl x1), some (.inl x2), some (.inl x3), some (.inl 0), wx5, wx6, wx7] [] M) : XW kX12_fuse d (some .int) (wQi Q) 250 [some (.inr (.inr 92)), some (.inl x1), some (.inl x2), some (.inl x3), some (.inl x4), wx5, wx6, wx7] [] M := by
  refine x_iconst 0 rfl (by decide) ?_
  refine x_istore rfl (Nat.le_of_ble_eq_true rfl) rfl ?_
  exact k
theorem uX12_fuse_253 {d : Nat} {Q : Int → yM → Prop} {M : yM} {x1 : Int} {x2 : Int} {x3 : Int} {x4 : Int} {wx5 : Option yV} {wx6 : Option yV} {wx7 : Option yV} (h1 : -2147483648 ≤ x4 ∧ x4 < 2147483648) (kt : x4 ≥ 64 → XW kX12_fuse d (some .int) (wQi Q) 274 [some (.inr (.inr 92)), some (.inl x1), some (.inl x2), some (.inl x3), some (.inl x4), wx5, wx6, wx7] [] M) (kf : x4 < 64 → XW kX12_fuse d (some .int) (wQi Q) 260 [some (.inr (.inr 92)), some (.inl x1), some (.inl x2), some (.inl x3), some (.inl x4), wx5, wx6, wx7] [] M) : XW kX12_fuse d (some .int) (wQi Q) 253 [some (.inr (.inr 92)), some (.inl x1), some (.inl x2), some (.inl x3), some (.inl x4), wx5, wx6, wx7] [] M := by
  refine x_iload rfl rfl ?_
  refine x_bipush 64 rfl (by decide) ?_
  exact x_icmpge rfl h1 (by decide) kt kf
theorem uX12_fuse_260 {d : Nat} {Q : Int → yM → Prop} {M : yM} {x1 : Int} {x2 : Int} {x3 : Int} {x4 : Int} {wx5 : Option yV} {wx6 : Option yV} {wx7 : Option yV} (h1 : 0 ≤ x4 ∧ x4 < 64) (k : ∀ M', M' = (put M 98 x4 0) → XW kX12_fuse d (some .int) (wQi Q) 268 [some (.inr (.inr 92)), some (.inl x1), some (.inl x2), some (.inl x3), some (.inl x4), wx5, wx6, wx7] [] M') : XW kX12_fuse d (some .int) (wQi Q) 260 [some (.inr (.inr 92)), some (.inl x1), some (.inl x2), some (.inl x3), some (.inl x4), wx5, wx6, wx7] [] M := by
  refine x_aload_n rfl rfl ?_
  refine x_getR rfl sh92 rfl ?_
  refine x_iload rfl rfl ?_
  refine x_iconst 0 rfl (by decide) ?_
  refine x_iastore rfl ⟨sh98, Nat.le_of_ble_eq_true rfl⟩ h1  ?_
  exact k _ rfl
theorem uX12_fuse_268 {d : Nat} {Q : Int → yM → Prop} {M : yM} {x1 : Int} {x2 : Int} {x3 : Int} {x4 : Int} {wx5 : Option yV} {wx6 : Option yV} {wx7 : Option yV} (k : XW kX12_fuse d (some .int) (wQi Q) 253 [some (.inr (.inr 92)), some (.inl x1), some (.inl x2), some (.inl x3), some (.inl (x4 + 1)), wx5, wx6, wx7] [] M) : XW kX12_fuse d (some .int) (wQi Q) 268 [some (.inr (.inr 92)), some (.inl x1), some (.inl x2), some (.inl x3), some (.inl x4), wx5, wx6, wx7] [] M := by
  refine x_iinc 1 rfl (by decide) rfl rfl ?_
  exact x_goto rfl k
theorem uX12_fuse_274 {d : Nat} {Q : Int → yM → Prop} {M : yM} {x1 : Int} {x2 : Int} {x3 : Int} {x4 : Int} {wx5 : Option yV} {wx6 : Option yV} {wx7 : Option yV} (k : XW kX12_fuse d (some .int) (wQi Q) 277 [some (.inr (.inr 92)), some (.inl x1), some (.inl x2), some (.inl x3), some (.inl 0), wx5, wx6, wx7] [] M) : XW kX12_fuse d (some .int) (wQi Q) 274 [some (.inr (.inr 92)), some (.inl x1), some (.inl x2), some (.inl x3), some (.inl x4), wx5, wx6, wx7] [] M := by
  refine x_iconst 0 rfl (by decide) ?_
  refine x_istore rfl (Nat.le_of_ble_eq_true rfl) rfl ?_
  exact k
theorem uX12_fuse_277 {d : Nat} {Q : Int → yM → Prop} {M : yM} {x1 : Int} {x2 : Int} {x3 : Int} {x4 : Int} {wx5 : Option yV} {wx6 : Option yV} {wx7 : Option yV} (h1 : -2147483648 ≤ x4 ∧ x4 < 2147483648) (kt : x4 ≥ (ld M 92 2) → XW kX12_fuse d (some .int) (wQi Q) 404 [some (.inr (.inr 92)), some (.inl x1), some (.inl x2), some (.inl x3), some (.inl x4), wx5, wx6, wx7] [] M) (kf : x4 < (ld M 92 2) → XW kX12_fuse d (some .int) (wQi Q) 286 [some (.inr (.inr 92)), some (.inl x1), some (.inl x2), some (.inl x3), some (.inl x4), wx5, wx6, wx7] [] M) : XW kX12_fuse d (some .int) (wQi Q) 277 [some (.inr (.inr 92)), some (.inl x1), some (.inl x2), some (.inl x3), some (.inl x4), wx5, wx6, wx7] [] M := by
  refine x_iload rfl rfl ?_
  refine x_aload_n rfl rfl ?_
  refine x_getI rfl sh92 rfl ?_
  exact x_icmpge rfl h1 (rng_ld _ _ _) kt kf
theorem uX12_fuse_286 {d : Nat} {Q : Int → yM → Prop} {M : yM} {x1 : Int} {x2 : Int} {x3 : Int} {x4 : Int} {wx5 : Option yV} {wx6 : Option yV} {wx7 : Option yV} (h1 : 0 ≤ x4 ∧ x4 < 8) (h2 : 0 ≤ x4 ∧ x4 < 8) (h3 : 0 ≤ (ld M 93 x4) ∧ (ld M 93 x4) < 8) (h4 : 0 ≤ (ld M 99 x4) ∧ (ld M 99 x4) < 8) (k : ∀ M', M' = (put M 97 (ld M 99 x4) (ld M 99 (ld M 93 x4))) → XW kX12_fuse d (some .int) (wQi Q) 310 [some (.inr (.inr 92)), some (.inl x1), some (.inl x2), some (.inl x3), some (.inl x4), wx5, wx6, wx7] [] M') : XW kX12_fuse d (some .int) (wQi Q) 286 [some (.inr (.inr 92)), some (.inl x1), some (.inl x2), some (.inl x3), some (.inl x4), wx5, wx6, wx7] [] M := by
  refine x_aload_n rfl rfl ?_
  refine x_getR rfl sh92 rfl ?_
  refine x_aload_n rfl rfl ?_
  refine x_getR rfl sh92 rfl ?_
  refine x_iload rfl rfl ?_
  refine x_iaload rfl ⟨sh99, Nat.le_of_ble_eq_true rfl⟩ h1 ?_
  refine x_aload_n rfl rfl ?_
  refine x_getR rfl sh92 rfl ?_
  refine x_aload_n rfl rfl ?_
  refine x_getR rfl sh92 rfl ?_
  refine x_iload rfl rfl ?_
  refine x_iaload rfl ⟨sh93, Nat.le_of_ble_eq_true rfl⟩ h2 ?_
  refine x_iaload rfl ⟨sh99, Nat.le_of_ble_eq_true rfl⟩ h3 ?_
  refine x_iastore rfl ⟨sh97, Nat.le_of_ble_eq_true rfl⟩ h4  ?_
  exact k _ rfl
theorem uX12_fuse_310 {d : Nat} {Q : Int → yM → Prop} {M : yM} {x1 : Int} {x2 : Int} {x3 : Int} {x4 : Int} {wx5 : Option yV} {wx6 : Option yV} {wx7 : Option yV} (k : XW kX12_fuse d (some .int) (wQi Q) 313 [some (.inr (.inr 92)), some (.inl x1), some (.inl x2), some (.inl x3), some (.inl x4), some (.inl 0), wx6, wx7] [] M) : XW kX12_fuse d (some .int) (wQi Q) 310 [some (.inr (.inr 92)), some (.inl x1), some (.inl x2), some (.inl x3), some (.inl x4), wx5, wx6, wx7] [] M := by
  refine x_iconst 0 rfl (by decide) ?_
  refine x_istore rfl (Nat.le_of_ble_eq_true rfl) rfl ?_
  exact k
theorem uX12_fuse_313 {d : Nat} {Q : Int → yM → Prop} {M : yM} {x1 : Int} {x2 : Int} {x3 : Int} {x4 : Int} {x5 : Int} {wx6 : Option yV} {wx7 : Option yV} (h1 : -2147483648 ≤ x5 ∧ x5 < 2147483648) (kt : x5 ≥ (ld M 92 2) → XW kX12_fuse d (some .int) (wQi Q) 398 [some (.inr (.inr 92)), some (.inl x1), some (.inl x2), some (.inl x3), some (.inl x4), some (.inl x5), wx6, wx7] [] M) (kf : x5 < (ld M 92 2) → XW kX12_fuse d (some .int) (wQi Q) 322 [some (.inr (.inr 92)), some (.inl x1), some (.inl x2), some (.inl x3), some (.inl x4), some (.inl x5), wx6, wx7] [] M) : XW kX12_fuse d (some .int) (wQi Q) 313 [some (.inr (.inr 92)), some (.inl x1), some (.inl x2), some (.inl x3), some (.inl x4), some (.inl x5), wx6, wx7] [] M := by
  refine x_iload rfl rfl ?_
  refine x_aload_n rfl rfl ?_
  refine x_getI rfl sh92 rfl ?_
  exact x_icmpge rfl h1 (rng_ld _ _ _) kt kf
theorem uX12_fuse_322 {d : Nat} {Q : Int → yM → Prop} {M : yM} {x1 : Int} {x2 : Int} {x3 : Int} {x4 : Int} {x5 : Int} {wx6 : Option yV} {wx7 : Option yV} (k : XW kX12_fuse d (some .int) (wQi Q) 325 [some (.inr (.inr 92)), some (.inl x1), some (.inl x2), some (.inl x3), some (.inl x4), some (.inl x5), some (.inl 0), wx7] [] M) : XW kX12_fuse d (some .int) (wQi Q) 322 [some (.inr (.inr 92)), some (.inl x1), some (.inl x2), some (.inl x3), some (.inl x4), some (.inl x5), wx6, wx7] [] M := by
  refine x_iconst 0 rfl (by decide) ?_
  refine x_istore rfl (Nat.le_of_ble_eq_true rfl) rfl ?_
  exact k
theorem uX12_fuse_325 {d : Nat} {Q : Int → yM → Prop} {M : yM} {x1 : Int} {x2 : Int} {x3 : Int} {x4 : Int} {x5 : Int} {x6 : Int} {wx7 : Option yV} (h1 : -2147483648 ≤ x6 ∧ x6 < 2147483648) (kt : x6 ≥ (ld M 92 2) → XW kX12_fuse d (some .int) (wQi Q) 392 [some (.inr (.inr 92)), some (.inl x1), some (.inl x2), some (.inl x3), some (.inl x4), some (.inl x5), some (.inl x6), wx7] [] M) (kf : x6 < (ld M 92 2) → XW kX12_fuse d (some .int) (wQi Q) 334 [some (.inr (.inr 92)), some (.inl x1), some (.inl x2), some (.inl x3), some (.inl x4), some (.inl x5), some (.inl x6), wx7] [] M) : XW kX12_fuse d (some .int) (wQi Q) 325 [some (.inr (.inr 92)), some (.inl x1), some (.inl x2), some (.inl x3), some (.inl x4), some (.inl x5), some (.inl x6), wx7] [] M := by
  refine x_iload rfl rfl ?_
  refine x_aload_n rfl rfl ?_
  refine x_getI rfl sh92 rfl ?_
  exact x_icmpge rfl h1 (rng_ld _ _ _) kt kf
theorem uX12_fuse_334 {d : Nat} {Q : Int → yM → Prop} {M : yM} {x1 : Int} {x2 : Int} {x3 : Int} {x4 : Int} {x5 : Int} {x6 : Int} {wx7 : Option yV} (h1 : 0 ≤ x4 ∧ x4 < 8) (h2 : 0 ≤ x5 ∧ x5 < 8) (h3 : 0 ≤ ((8 * (ld M 99 x4)) + (ld M 99 x5)) ∧ ((8 * (ld M 99 x4)) + (ld M 99 x5)) < 64) (k : XCi d 125 [.inr (.inr 92), .inl x4, .inl x5, .inl x6] M (fun v M' => XW kX12_fuse (d + 1) (some .int) (wQi Q) 368 [some (.inr (.inr 92)), some (.inl x1), some (.inl x2), some (.inl x3), some (.inl x4), some (.inl x5), some (.inl x6), wx7] [.inl v, .inl (ld M 98 ((8 * (ld M 99 x4)) + (ld M 99 x5))), .inl ((8 * (ld M 99 x4)) + (ld M 99 x5)), .inr (.inr 98)] M')) : XW kX12_fuse (d + 1) (some .int) (wQi Q) 334 [some (.inr (.inr 92)), some (.inl x1), some (.inl x2), some (.inl x3), some (.inl x4), some (.inl x5), some (.inl x6), wx7] [] M := by
  refine x_aload_n rfl rfl ?_
  refine x_getR rfl sh92 rfl ?_
  refine x_bipush 8 rfl (by decide) ?_
  refine x_aload_n rfl rfl ?_
  refine x_getR rfl sh92 rfl ?_
  refine x_iload rfl rfl ?_
  refine x_iaload rfl ⟨sh99, Nat.le_of_ble_eq_true rfl⟩ h1 ?_
  refine x_imul rfl ?_
  refine x_aload_n rfl rfl ?_
  refine x_getR rfl sh92 rfl ?_
  refine x_iload rfl rfl ?_
  refine x_iaload rfl ⟨sh99, Nat.le_of_ble_eq_true rfl⟩ h2 ?_
  refine x_iadd rfl ?_
  refine x_dup2 rfl ?_
  refine x_iaload rfl ⟨sh98, Nat.le_of_ble_eq_true rfl⟩ h3 ?_
  refine x_aload_n rfl rfl ?_
  refine x_iload rfl rfl ?_
  refine x_iload rfl rfl ?_
  refine x_iload rfl rfl ?_
  exact x_calli (args := [.inr (.inr 92), .inl x4, .inl x5, .inl x6]) rfl rfl rfl k
theorem uX12_fuse_368 {d : Nat} {Q : Int → yM → Prop} {M : yM} {x1 : Int} {x2 : Int} {x3 : Int} {x4 : Int} {x5 : Int} {x6 : Int} {wx7 : Option yV} {s0 : Int} {s1 : Int} {s2 : Int} (h1 : -2147483648 ≤ s0 ∧ s0 < 2147483648) (kt : s0 = 0 → XW kX12_fuse d (some .int) (wQi Q) 383 [some (.inr (.inr 92)), some (.inl x1), some (.inl x2), some (.inl x3), some (.inl x4), some (.inl x5), some (.inl x6), wx7] [.inl s1, .inl s2, .inr (.inr 98)] M) (kf : s0 ≠ 0 → XW kX12_fuse d (some .int) (wQi Q) 371 [some (.inr (.inr 92)), some (.inl x1), some (.inl x2), some (.inl x3), some (.inl x4), some (.inl x5), some (.inl x6), wx7] [.inl s1, .inl s2, .inr (.inr 98)] M) : XW kX12_fuse d (some .int) (wQi Q) 368 [some (.inr (.inr 92)), some (.inl x1), some (.inl x2), some (.inl x3), some (.inl x4), some (.inl x5), some (.inl x6), wx7] [.inl s0, .inl s1, .inl s2, .inr (.inr 98)] M := by
  exact x_ifeq rfl h1 kt kf
theorem uX12_fuse_371 {d : Nat} {Q : Int → yM → Prop} {M : yM} {x1 : Int} {x2 : Int} {x3 : Int} {x4 : Int} {x5 : Int} {x6 : Int} {wx7 : Option yV} {s0 : Int} {s1 : Int} (h1 : 0 ≤ x6 ∧ x6 < 8) (k : XW kX12_fuse d (some .int) (wQi Q) 384 [some (.inr (.inr 92)), some (.inl x1), some (.inl x2), some (.inl x3), some (.inl x4), some (.inl x5), some (.inl x6), wx7] [.inl (yshl 1 (ld M 99 x6)), .inl s0, .inl s1, .inr (.inr 98)] M) : XW kX12_fuse d (some .int) (wQi Q) 371 [some (.inr (.inr 92)), some (.inl x1), some (.inl x2), some (.inl x3), some (.inl x4), some (.inl x5), some (.inl x6), wx7] [.inl s0, .inl s1, .inr (.inr 98)] M := by
  refine x_iconst 1 rfl (by decide) ?_
  refine x_aload_n rfl rfl ?_
  refine x_getR rfl sh92 rfl ?_
  refine x_iload rfl rfl ?_
  refine x_iaload rfl ⟨sh99, Nat.le_of_ble_eq_true rfl⟩ h1 ?_
  refine x_ishl rfl ?_
  exact x_goto rfl k
theorem uX12_fuse_383 {d : Nat} {Q : Int → yM → Prop} {M : yM} {x1 : Int} {x2 : Int} {x3 : Int} {x4 : Int} {x5 : Int} {x6 : Int} {wx7 : Option yV} {s0 : Int} {s1 : Int} (k : XW kX12_fuse d (some .int) (wQi Q) 384 [some (.inr (.inr 92)), some (.inl x1), some (.inl x2), some (.inl x3), some (.inl x4), some (.inl x5), some (.inl x6), wx7] [.inl 0, .inl s0, .inl s1, .inr (.inr 98)] M) : XW kX12_fuse d (some .int) (wQi Q) 383 [some (.inr (.inr 92)), some (.inl x1), some (.inl x2), some (.inl x3), some (.inl x4), some (.inl x5), some (.inl x6), wx7] [.inl s0, .inl s1, .inr (.inr 98)] M := by
  refine x_iconst 0 rfl (by decide) ?_
  exact k
theorem uX12_fuse_384 {d : Nat} {Q : Int → yM → Prop} {M : yM} {x1 : Int} {x2 : Int} {x3 : Int} {x4 : Int} {x5 : Int} {x6 : Int} {wx7 : Option yV} {s0 : Int} {s1 : Int} {s2 : Int} (h1 : 0 ≤ s2 ∧ s2 < 64) (k : ∀ M', M' = (put M 98 s2 (yor s1 s0)) → XW kX12_fuse d (some .int) (wQi Q) 386 [some (.inr (.inr 92)), some (.inl x1), some (.inl x2), some (.inl x3), some (.inl x4), some (.inl x5), some (.inl x6), wx7] [] M') : XW kX12_fuse d (some .int) (wQi Q) 384 [some (.inr (.inr 92)), some (.inl x1), some (.inl x2), some (.inl x3), some (.inl x4), some (.inl x5), some (.inl x6), wx7] [.inl s0, .inl s1, .inl s2, .inr (.inr 98)] M := by
  refine x_ior rfl ?_
  refine x_iastore rfl ⟨sh98, Nat.le_of_ble_eq_true rfl⟩ h1  ?_
  exact k _ rfl
theorem uX12_fuse_386 {d : Nat} {Q : Int → yM → Prop} {M : yM} {x1 : Int} {x2 : Int} {x3 : Int} {x4 : Int} {x5 : Int} {x6 : Int} {wx7 : Option yV} (k : XW kX12_fuse d (some .int) (wQi Q) 325 [some (.inr (.inr 92)), some (.inl x1), some (.inl x2), some (.inl x3), some (.inl x4), some (.inl x5), some (.inl (x6 + 1)), wx7] [] M) : XW kX12_fuse d (some .int) (wQi Q) 386 [some (.inr (.inr 92)), some (.inl x1), some (.inl x2), some (.inl x3), some (.inl x4), some (.inl x5), some (.inl x6), wx7] [] M := by
  refine x_iinc 1 rfl (by decide) rfl rfl ?_
  exact x_goto rfl k
theorem uX12_fuse_392 {d : Nat} {Q : Int → yM → Prop} {M : yM} {x1 : Int} {x2 : Int} {x3 : Int} {x4 : Int} {x5 : Int} {x6 : Int} {wx7 : Option yV} (k : XW kX12_fuse d (some .int) (wQi Q) 313 [some (.inr (.inr 92)), some (.inl x1), some (.inl x2), some (.inl x3), some (.inl x4), some (.inl (x5 + 1)), some (.inl x6), wx7] [] M) : XW kX12_fuse d (some .int) (wQi Q) 392 [some (.inr (.inr 92)), some (.inl x1), some (.inl x2), some (.inl x3), some (.inl x4), some (.inl x5), some (.inl x6), wx7] [] M := by
  refine x_iinc 1 rfl (by decide) rfl rfl ?_
  exact x_goto rfl k
theorem uX12_fuse_398 {d : Nat} {Q : Int → yM → Prop} {M : yM} {x1 : Int} {x2 : Int} {x3 : Int} {x4 : Int} {x5 : Int} {wx6 : Option yV} {wx7 : Option yV} (k : XW kX12_fuse d (some .int) (wQi Q) 277 [some (.inr (.inr 92)), some (.inl x1), some (.inl x2), some (.inl x3), some (.inl (x4 + 1)), some (.inl x5), wx6, wx7] [] M) : XW kX12_fuse d (some .int) (wQi Q) 398 [some (.inr (.inr 92)), some (.inl x1), some (.inl x2), some (.inl x3), some (.inl x4), some (.inl x5), wx6, wx7] [] M := by
  refine x_iinc 1 rfl (by decide) rfl rfl ?_
  exact x_goto rfl k
theorem uX12_fuse_404 {d : Nat} {Q : Int → yM → Prop} {M : yM} {x1 : Int} {x2 : Int} {x3 : Int} {x4 : Int} {wx5 : Option yV} {wx6 : Option yV} {wx7 : Option yV} (k : XCi d 139 [.inr (.inr 92), .inl x3] M (fun v M' => XW kX12_fuse (d + 1) (some .int) (wQi Q) 409 [some (.inr (.inr 92)), some (.inl x1), some (.inl x2), some (.inl x3), some (.inl x4), wx5, wx6, wx7] [.inl v] M')) : XW kX12_fuse (d + 1) (some .int) (wQi Q) 404 [some (.inr (.inr 92)), some (.inl x1), some (.inl x2), some (.inl x3), some (.inl x4), wx5, wx6, wx7] [] M := by
  refine x_aload_n rfl rfl ?_
  refine x_iload_n rfl rfl ?_
  exact x_calli (args := [.inr (.inr 92), .inl x3]) rfl rfl rfl k
theorem uX12_fuse_409 {d : Nat} {Q : Int → yM → Prop} {M : yM} {x1 : Int} {x2 : Int} {x3 : Int} {x4 : Int} {wx5 : Option yV} {wx6 : Option yV} {wx7 : Option yV} {s0 : Int} (k : Q s0 M) : XW kX12_fuse d (some .int) (wQi Q) 409 [some (.inr (.inr 92)), some (.inl x1), some (.inl x2), some (.inl x3), some (.inl x4), wx5, wx6, wx7] [.inl s0] M := by
  exact x_ireturn rfl k
