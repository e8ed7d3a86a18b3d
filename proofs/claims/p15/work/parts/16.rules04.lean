theorem eX12_fuse {d : Nat} {Q : Int → yM → Prop} {M : yM} {x1 : Int} {x2 : Int}  (h : XW kX12_fuse d (some .int) (wQi Q) 0 [some (.inr (.inr 92)), some (.inl x1), some (.inl x2), none, none, none, none, none] [] M) : XCi d 140 [.inr (.inr 92), .inl x1, .inl x2] M Q :=
  XC.ofW (Mm := (yX12_fuse, cX12_fuse, 8, (some .int), 13, kX12_fuse)) rfl (rcv_ok sh92) rfl rfl h
theorem uX12_fuse_0 {d : Nat} {Q : Int → yM → Prop} {M : yM} {x1 : Int} {x2 : Int} (k : ∀ M', M' = (put M 92 0 0) → XW kX12_fuse d (some .int) (wQi Q) 5 [some (.inr (.inr 92)), some (.inl x1), some (.inl x2), none, none, none, none, none] [] M') : XW kX12_fuse d (some .int) (wQi Q) 0 [some (.inr (.inr 92)), some (.inl x1), some (.inl x2), none, none, none, none, none] [] M := by
  refine x_aload_n rfl rfl ?_
  refine x_iconst 0 rfl (by decide) ?_
  refine x_putI rfl rfl sh92 rfl ?_
  exact k _ rfl
theorem uX12_fuse_5 {d : Nat} {Q : Int → yM → Prop} {M : yM} {x1 : Int} {x2 : Int} (k : XCi d 122 [.inr (.inr 92), .inl x1] M (fun v M' => XW kX12_fuse (d + 1) (some .int) (wQi Q) 10 [some (.inr (.inr 92)), some (.inl x1), some (.inl x2), none, none, none, none, none] [.inl v] M')) : XW kX12_fuse (d + 1) (some .int) (wQi Q) 5 [some (.inr (.inr 92)), some (.inl x1), some (.inl x2), none, none, none, none, none] [] M := by
  refine x_aload_n rfl rfl ?_
  refine x_iload_n rfl rfl ?_
  exact x_calli (args := [.inr (.inr 92), .inl x1]) rfl rfl rfl k
theorem uX12_fuse_10 {d : Nat} {Q : Int → yM → Prop} {M : yM} {x1 : Int} {x2 : Int} {s0 : Int} (h1 : -2147483648 ≤ s0 ∧ s0 < 2147483648) (kt : s0 = 0 → XW kX12_fuse d (some .int) (wQi Q) 26 [some (.inr (.inr 92)), some (.inl x1), some (.inl x2), none, none, none, none, none] [] M) (kf : s0 ≠ 0 → XW kX12_fuse d (some .int) (wQi Q) 13 [some (.inr (.inr 92)), some (.inl x1), some (.inl x2), none, none, none, none, none] [] M) : XW kX12_fuse d (some .int) (wQi Q) 10 [some (.inr (.inr 92)), some (.inl x1), some (.inl x2), none, none, none, none, none] [.inl s0] M := by
  exact x_ifeq rfl h1 kt kf
theorem uX12_fuse_13 {d : Nat} {Q : Int → yM → Prop} {M : yM} {x1 : Int} {x2 : Int} (k : XCi d 122 [.inr (.inr 92), .inl x2] M (fun v M' => XW kX12_fuse (d + 1) (some .int) (wQi Q) 18 [some (.inr (.inr 92)), some (.inl x1), some (.inl x2), none, none, none, none, none] [.inl v] M')) : XW kX12_fuse (d + 1) (some .int) (wQi Q) 13 [some (.inr (.inr 92)), some (.inl x1), some (.inl x2), none, none, none, none, none] [] M := by
  refine x_aload_n rfl rfl ?_
  refine x_iload_n rfl rfl ?_
  exact x_calli (args := [.inr (.inr 92), .inl x2]) rfl rfl rfl k
theorem uX12_fuse_18 {d : Nat} {Q : Int → yM → Prop} {M : yM} {x1 : Int} {x2 : Int} {s0 : Int} (h1 : -2147483648 ≤ s0 ∧ s0 < 2147483648) (kt : s0 = 0 → XW kX12_fuse d (some .int) (wQi Q) 26 [some (.inr (.inr 92)), some (.inl x1), some (.inl x2), none, none, none, none, none] [] M) (kf : s0 ≠ 0 → XW kX12_fuse d (some .int) (wQi Q) 21 [some (.inr (.inr 92)), some (.inl x1), some (.inl x2), none, none, none, none, none] [] M) : XW kX12_fuse d (some .int) (wQi Q) 18 [some (.inr (.inr 92)), some (.inl x1), some (.inl x2), none, none, none, none, none] [.inl s0] M := by
  exact x_ifeq rfl h1 kt kf
theorem uX12_fuse_21 {d : Nat} {Q : Int → yM → Prop} {M : yM} {x1 : Int} {x2 : Int} (h1 : -2147483648 ≤ x1 ∧ x1 < 2147483648) (h2 : -2147483648 ≤ x2 ∧ x2 < 2147483648) (kt : x1 ≠ x2 → XW kX12_fuse d (some .int) (wQi Q) 28 [some (.inr (.inr 92)), some (.inl x1), some (.inl x2), none, none, none, none, none] [] M) (kf : x1 = x2 → XW kX12_fuse d (some .int) (wQi Q) 26 [some (.inr (.inr 92)), some (.inl x1), some (.inl x2), none, none, none, none, none] [] M) : XW kX12_fuse d (some .int) (wQi Q) 21 [some (.inr (.inr 92)), some (.inl x1), some (.inl x2), none, none, none, none, none] [] M := by
  refine x_iload_n rfl rfl ?_
  refine x_iload_n rfl rfl ?_
  exact x_icmpne rfl h1 h2 kt kf
theorem uX12_fuse_26 {d : Nat} {Q : Int → yM → Prop} {M : yM} {x1 : Int} {x2 : Int} (k : Q (-1) M) : XW kX12_fuse d (some .int) (wQi Q) 26 [some (.inr (.inr 92)), some (.inl x1), some (.inl x2), none, none, none, none, none] [] M := by
  refine x_iconst (-1) rfl (by decide) ?_
  exact x_ireturn rfl k
theorem uX12_fuse_28 {d : Nat} {Q : Int → yM → Prop} {M : yM} {x1 : Int} {x2 : Int} (h1 : 0 ≤ x1 ∧ x1 < 8) (h2 : -2147483648 ≤ x2 ∧ x2 < 2147483648) (kt : (ld M 93 x1) = x2 → XW kX12_fuse d (some .int) (wQi Q) 71 [some (.inr (.inr 92)), some (.inl x1), some (.inl x2), none, none, none, none, none] [] M) (kf : (ld M 93 x1) ≠ x2 → XW kX12_fuse d (some .int) (wQi Q) 38 [some (.inr (.inr 92)), some (.inl x1), some (.inl x2), none, none, none, none, none] [] M) : XW kX12_fuse d (some .int) (wQi Q) 28 [some (.inr (.inr 92)), some (.inl x1), some (.inl x2), none, none, none, none, none] [] M := by
  refine x_aload_n rfl rfl ?_
  refine x_getR rfl sh92 rfl ?_
  refine x_iload_n rfl rfl ?_
  refine x_iaload rfl ⟨sh93, Nat.le_of_ble_eq_true rfl⟩ h1 ?_
  refine x_iload_n rfl rfl ?_
  exact x_icmpeq rfl (rng_ld _ _ _) h2 kt kf
theorem uX12_fuse_38 {d : Nat} {Q : Int → yM → Prop} {M : yM} {x1 : Int} {x2 : Int} (h1 : 0 ≤ x1 ∧ x1 < 8) (h2 : -2147483648 ≤ x1 ∧ x1 < 2147483648) (kt : (ld M 93 x1) ≠ x1 → XW kX12_fuse d (some .int) (wQi Q) 52 [some (.inr (.inr 92)), some (.inl x1), some (.inl x2), none, none, none, none, none] [] M) (kf : (ld M 93 x1) = x1 → XW kX12_fuse d (some .int) (wQi Q) 48 [some (.inr (.inr 92)), some (.inl x1), some (.inl x2), none, none, none, none, none] [] M) : XW kX12_fuse d (some .int) (wQi Q) 38 [some (.inr (.inr 92)), some (.inl x1), some (.inl x2), none, none, none, none, none] [] M := by
  refine x_aload_n rfl rfl ?_
  refine x_getR rfl sh92 rfl ?_
  refine x_iload_n rfl rfl ?_
  refine x_iaload rfl ⟨sh93, Nat.le_of_ble_eq_true rfl⟩ h1 ?_
  refine x_iload_n rfl rfl ?_
  exact x_icmpne rfl (rng_ld _ _ _) h2 kt kf
theorem uX12_fuse_48 {d : Nat} {Q : Int → yM → Prop} {M : yM} {x1 : Int} {x2 : Int} (k : XW kX12_fuse d (some .int) (wQi Q) 53 [some (.inr (.inr 92)), some (.inl x1), some (.inl x2), none, none, none, none, none] [.inl 1] M) : XW kX12_fuse d (some .int) (wQi Q) 48 [some (.inr (.inr 92)), some (.inl x1), some (.inl x2), none, none, none, none, none] [] M := by
  refine x_iconst 1 rfl (by decide) ?_
  exact x_goto rfl k
theorem uX12_fuse_52 {d : Nat} {Q : Int → yM → Prop} {M : yM} {x1 : Int} {x2 : Int} (k : XW kX12_fuse d (some .int) (wQi Q) 53 [some (.inr (.inr 92)), some (.inl x1), some (.inl x2), none, none, none, none, none] [.inl 0] M) : XW kX12_fuse d (some .int) (wQi Q) 52 [some (.inr (.inr 92)), some (.inl x1), some (.inl x2), none, none, none, none, none] [] M := by
  refine x_iconst 0 rfl (by decide) ?_
  exact k
theorem uX12_fuse_53 {d : Nat} {Q : Int → yM → Prop} {M : yM} {x1 : Int} {x2 : Int} {s0 : Int} (h1 : 0 ≤ x2 ∧ x2 < 8) (h2 : -2147483648 ≤ x2 ∧ x2 < 2147483648) (kt : (ld M 93 x2) ≠ x2 → XW kX12_fuse d (some .int) (wQi Q) 67 [some (.inr (.inr 92)), some (.inl x1), some (.inl x2), none, none, none, none, none] [.inl s0] M) (kf : (ld M 93 x2) = x2 → XW kX12_fuse d (some .int) (wQi Q) 63 [some (.inr (.inr 92)), some (.inl x1), some (.inl x2), none, none, none, none, none] [.inl s0] M) : XW kX12_fuse d (some .int) (wQi Q) 53 [some (.inr (.inr 92)), some (.inl x1), some (.inl x2), none, none, none, none, none] [.inl s0] M := by
  refine x_aload_n rfl rfl ?_
  refine x_getR rfl sh92 rfl ?_
  refine x_iload_n rfl rfl ?_
  refine x_iaload rfl ⟨sh93, Nat.le_of_ble_eq_true rfl⟩ h1 ?_
  refine x_iload_n rfl rfl ?_
  exact x_icmpne rfl (rng_ld _ _ _) h2 kt kf
theorem uX12_fuse_63 {d : Nat} {Q : Int → yM → Prop} {M : yM} {x1 : Int} {x2 : Int} {s0 : Int} (k : XW kX12_fuse d (some .int) (wQi Q) 68 [some (.inr (.inr 92)), some (.inl x1), some (.inl x2), none, none, none, none, none] [.inl 1, .inl s0] M) : XW kX12_fuse d (some .int) (wQi Q) 63 [some (.inr (.inr 92)), some (.inl x1), some (.inl x2), none, none, none, none, none] [.inl s0] M := by
  refine x_iconst 1 rfl (by decide) ?_
  exact x_goto rfl k
theorem uX12_fuse_67 {d : Nat} {Q : Int → yM → Prop} {M : yM} {x1 : Int} {x2 : Int} {s0 : Int} (k : XW kX12_fuse d (some .int) (wQi Q) 68 [some (.inr (.inr 92)), some (.inl x1), some (.inl x2), none, none, none, none, none] [.inl 0, .inl s0] M) : XW kX12_fuse d (some .int) (wQi Q) 67 [some (.inr (.inr 92)), some (.inl x1), some (.inl x2), none, none, none, none, none] [.inl s0] M := by
  refine x_iconst 0 rfl (by decide) ?_
  exact k
theorem uX12_fuse_68 {d : Nat} {Q : Int → yM → Prop} {M : yM} {x1 : Int} {x2 : Int} {s0 : Int} {s1 : Int} (h1 : -2147483648 ≤ s1 ∧ s1 < 2147483648) (h2 : -2147483648 ≤ s0 ∧ s0 < 2147483648) (kt : s1 = s0 → XW kX12_fuse d (some .int) (wQi Q) 74 [some (.inr (.inr 92)), some (.inl x1), some (.inl x2), none, none, none, none, none] [] M) (kf : s1 ≠ s0 → XW kX12_fuse d (some .int) (wQi Q) 71 [some (.inr (.inr 92)), some (.inl x1), some (.inl x2), none, none, none, none, none] [] M) : XW kX12_fuse d (some .int) (wQi Q) 68 [some (.inr (.inr 92)), some (.inl x1), some (.inl x2), none, none, none, none, none] [.inl s0, .inl s1] M := by
  exact x_icmpeq rfl h1 h2 kt kf
theorem uX12_fuse_71 {d : Nat} {Q : Int → yM → Prop} {M : yM} {x1 : Int} {x2 : Int} (k : Q (-2) M) : XW kX12_fuse d (some .int) (wQi Q) 71 [some (.inr (.inr 92)), some (.inl x1), some (.inl x2), none, none, none, none, none] [] M := by
  refine x_bipush (-2) rfl (by decide) ?_
  exact x_ireturn rfl k
theorem uX12_fuse_74 {d : Nat} {Q : Int → yM → Prop} {M : yM} {x1 : Int} {x2 : Int} (k : XW kX12_fuse d (some .int) (wQi Q) 79 [some (.inr (.inr 92)), some (.inl x1), some (.inl x2), some (.inl 0), some (.inl 0), none, none, none] [] M) : XW kX12_fuse d (some .int) (wQi Q) 74 [some (.inr (.inr 92)), some (.inl x1), some (.inl x2), none, none, none, none, none] [] M := by
  refine x_iconst 0 rfl (by decide) ?_
  refine x_istore_n rfl (Nat.le_of_ble_eq_true rfl) rfl ?_
  refine x_iconst 0 rfl (by decide) ?_
  refine x_istore rfl (Nat.le_of_ble_eq_true rfl) rfl ?_
  exact k
theorem uX12_fuse_79 {d : Nat} {Q : Int → yM → Prop} {M : yM} {x1 : Int} {x2 : Int} {x3 : Int} {x4 : Int} {wx5 : Option yV} {wx6 : Option yV} {wx7 : Option yV} (h1 : -2147483648 ≤ x4 ∧ x4 < 2147483648) (kt : x4 ≥ (ld M 92 2) → XW kX12_fuse d (some .int) (wQi Q) 250 [some (.inr (.inr 92)), some (.inl x1), some (.inl x2), some (.inl x3), some (.inl x4), wx5, wx6, wx7] [] M) (kf : x4 < (ld M 92 2) → XW kX12_fuse d (some .int) (wQi Q) 88 [some (.inr (.inr 92)), some (.inl x1), some (.inl x2), some (.inl x3), some (.inl x4), wx5, wx6, wx7] [] M) : XW kX12_fuse d (some .int) (wQi Q) 79 [some (.inr (.inr 92)), some (.inl x1), some (.inl x2), some (.inl x3), some (.inl x4), wx5, wx6, wx7] [] M := by
  refine x_iload rfl rfl ?_
  refine x_aload_n rfl rfl ?_
  refine x_getI rfl sh92 rfl ?_
  exact x_icmpge rfl h1 (rng_ld _ _ _) kt kf
theorem uX12_fuse_88 {d : Nat} {Q : Int → yM → Prop} {M : yM} {x1 : Int} {x2 : Int} {x3 : Int} {x4 : Int} {wx5 : Option yV} {wx6 : Option yV} {wx7 : Option yV} (k : XW kX12_fuse d (some .int) (wQi Q) 95 [some (.inr (.inr 92)), some (.inl x1), some (.inl x2), some (.inl x3), some (.inl x4), some (.inl x4), some (.inl 0), wx7] [] M) : XW kX12_fuse d (some .int) (wQi Q) 88 [some (.inr (.inr 92)), some (.inl x1), some (.inl x2), some (.inl x3), some (.inl x4), wx5, wx6, wx7] [] M := by
  refine x_iload rfl rfl ?_
  refine x_istore rfl (Nat.le_of_ble_eq_true rfl) rfl ?_
  refine x_iconst 0 rfl (by decide) ?_
  refine x_istore rfl (Nat.le_of_ble_eq_true rfl) rfl ?_
  exact k
theorem uX12_fuse_95 {d : Nat} {Q : Int → yM → Prop} {M : yM} {x1 : Int} {x2 : Int} {x3 : Int} {x4 : Int} {x5 : Int} {x6 : Int} {wx7 : Option yV} (h1 : -2147483648 ≤ x6 ∧ x6 < 2147483648) (h2 : -2147483648 ≤ x4 ∧ x4 < 2147483648) (kt : x6 ≥ x4 → XW kX12_fuse d (some .int) (wQi Q) 204 [some (.inr (.inr 92)), some (.inl x1), some (.inl x2), some (.inl x3), some (.inl x4), some (.inl x5), some (.inl x6), wx7] [] M) (kf : x6 < x4 → XW kX12_fuse d (some .int) (wQi Q) 102 [some (.inr (.inr 92)), some (.inl x1), some (.inl x2), some (.inl x3), some (.inl x4), some (.inl x5), some (.inl x6), wx7] [] M) : XW kX12_fuse d (some .int) (wQi Q) 95 [some (.inr (.inr 92)), some (.inl x1), some (.inl x2), some (.inl x3), some (.inl x4), some (.inl x5), some (.inl x6), wx7] [] M := by
  refine x_iload rfl rfl ?_
  refine x_iload rfl rfl ?_
  exact x_icmpge rfl h1 h2 kt kf
theorem uX12_fuse_102 {d : Nat} {Q : Int → yM → Prop} {M : yM} {x1 : Int} {x2 : Int} {x3 : Int} {x4 : Int} {x5 : Int} {x6 : Int} {wx7 : Option yV} (h1 : -2147483648 ≤ x4 ∧ x4 < 2147483648) (h2 : -2147483648 ≤ x1 ∧ x1 < 2147483648) (kt : x4 = x1 → XW kX12_fuse d (some .int) (wQi Q) 114 [some (.inr (.inr 92)), some (.inl x1), some (.inl x2), some (.inl x3), some (.inl x4), some (.inl x5), some (.inl x6), wx7] [] M) (kf : x4 ≠ x1 → XW kX12_fuse d (some .int) (wQi Q) 108 [some (.inr (.inr 92)), some (.inl x1), some (.inl x2), some (.inl x3), some (.inl x4), some (.inl x5), some (.inl x6), wx7] [] M) : XW kX12_fuse d (some .int) (wQi Q) 102 [some (.inr (.inr 92)), some (.inl x1), some (.inl x2), some (.inl x3), some (.inl x4), some (.inl x5), some (.inl x6), wx7] [] M := by
  refine x_iload rfl rfl ?_
  refine x_iload_n rfl rfl ?_
  exact x_icmpeq rfl h1 h2 kt kf
theorem uX12_fuse_108 {d : Nat} {Q : Int → yM → Prop} {M : yM} {x1 : Int} {x2 : Int} {x3 : Int} {x4 : Int} {x5 : Int} {x6 : Int} {wx7 : Option yV} (h1 : -2147483648 ≤ x4 ∧ x4 < 2147483648) (h2 : -2147483648 ≤ x2 ∧ x2 < 2147483648) (kt : x4 ≠ x2 → XW kX12_fuse d (some .int) (wQi Q) 126 [some (.inr (.inr 92)), some (.inl x1), some (.inl x2), some (.inl x3), some (.inl x4), some (.inl x5), some (.inl x6), wx7] [] M) (kf : x4 = x2 → XW kX12_fuse d (some .int) (wQi Q) 114 [some (.inr (.inr 92)), some (.inl x1), some (.inl x2), some (.inl x3), some (.inl x4), some (.inl x5), some (.inl x6), wx7] [] M) : XW kX12_fuse d (some .int) (wQi Q) 108 [some (.inr (.inr 92)), some (.inl x1), some (.inl x2), some (.inl x3), some (.inl x4), some (.inl x5), some (.inl x6), wx7] [] M := by
  refine x_iload rfl rfl ?_
  refine x_iload_n rfl rfl ?_
  exact x_icmpne rfl h1 h2 kt kf
theorem uX12_fuse_114 {d : Nat} {Q : Int → yM → Prop} {M : yM} {x1 : Int} {x2 : Int} {x3 : Int} {x4 : Int} {x5 : Int} {x6 : Int} {wx7 : Option yV} (h1 : -2147483648 ≤ x6 ∧ x6 < 2147483648) (h2 : -2147483648 ≤ x1 ∧ x1 < 2147483648) (kt : x6 = x1 → XW kX12_fuse d (some .int) (wQi Q) 170 [some (.inr (.inr 92)), some (.inl x1), some (.inl x2), some (.inl x3), some (.inl x4), some (.inl x5), some (.inl x6), wx7] [] M) (kf : x6 ≠ x1 → XW kX12_fuse d (some .int) (wQi Q) 120 [some (.inr (.inr 92)), some (.inl x1), some (.inl x2), some (.inl x3), some (.inl x4), some (.inl x5), some (.inl x6), wx7] [] M) : XW kX12_fuse d (some .int) (wQi Q) 114 [some (.inr (.inr 92)), some (.inl x1), some (.inl x2), some (.inl x3), some (.inl x4), some (.inl x5), some (.inl x6), wx7] [] M := by
  refine x_iload rfl rfl ?_
  refine x_iload_n rfl rfl ?_
  exact x_icmpeq rfl h1 h2 kt kf
theorem uX12_fuse_120 {d : Nat} {Q : Int → yM → Prop} {M : yM} {x1 : Int} {x2 : Int} {x3 : Int} {x4 : Int} {x5 : Int} {x6 : Int} {wx7 : Option yV} (h1 : -2147483648 ≤ x6 ∧ x6 < 2147483648) (h2 : -2147483648 ≤ x2 ∧ x2 < 2147483648) (kt : x6 = x2 → XW kX12_fuse d (some .int) (wQi Q) 170 [some (.inr (.inr 92)), some (.inl x1), some (.inl x2), some (.inl x3), some (.inl x4), some (.inl x5), some (.inl x6), wx7] [] M) (kf : x6 ≠ x2 → XW kX12_fuse d (some .int) (wQi Q) 126 [some (.inr (.inr 92)), some (.inl x1), some (.inl x2), some (.inl x3), some (.inl x4), some (.inl x5), some (.inl x6), wx7] [] M) : XW kX12_fuse d (some .int) (wQi Q) 120 [some (.inr (.inr 92)), some (.inl x1), some (.inl x2), some (.inl x3), some (.inl x4), some (.inl x5), some (.inl x6), wx7] [] M := by
  refine x_iload rfl rfl ?_
  refine x_iload_n rfl rfl ?_
  exact x_icmpeq rfl h1 h2 kt kf
theorem uX12_fuse_126 {d : Nat} {Q : Int → yM → Prop} {M : yM} {x1 : Int} {x2 : Int} {x3 : Int} {x4 : Int} {x5 : Int} {x6 : Int} {wx7 : Option yV} (h1 : 0 ≤ x1 ∧ x1 < 8) (h2 : -2147483648 ≤ x4 ∧ x4 < 2147483648) (kt : x4 = (ld M 93 x1) → XW kX12_fuse d (some .int) (wQi Q) 148 [some (.inr (.inr 92)), some (.inl x1), some (.inl x2), some (.inl x3), some (.inl x4), some (.inl x5), some (.inl x6), wx7] [] M) (kf : x4 ≠ (ld M 93 x1) → XW kX12_fuse d (some .int) (wQi Q) 137 [some (.inr (.inr 92)), some (.inl x1), some (.inl x2), some (.inl x3), some (.inl x4), some (.inl x5), some (.inl x6), wx7] [] M) : XW kX12_fuse d (some .int) (wQi Q) 126 [some (.inr (.inr 92)), some (.inl x1), some (.inl x2), some (.inl x3), some (.inl x4), some (.inl x5), some (.inl x6), wx7] [] M := by
  refine x_iload rfl rfl ?_
  refine x_aload_n rfl rfl ?_
  refine x_getR rfl sh92 rfl ?_
  refine x_iload_n rfl rfl ?_
  refine x_iaload rfl ⟨sh93, Nat.le_of_ble_eq_true rfl⟩ h1 ?_
  exact x_icmpeq rfl h2 (rng_ld _ _ _) kt kf
theorem uX12_fuse_137 {d : Nat} {Q : Int → yM → Prop} {M : yM} {x1 : Int} {x2 : Int} {x3 : Int} {x4 : Int} {x5 : Int} {x6 : Int} {wx7 : Option yV} (h1 : 0 ≤ x2 ∧ x2 < 8) (h2 : -2147483648 ≤ x4 ∧ x4 < 2147483648) (kt : x4 ≠ (ld M 93 x2) → XW kX12_fuse d (some .int) (wQi Q) 174 [some (.inr (.inr 92)), some (.inl x1), some (.inl x2), some (.inl x3), some (.inl x4), some (.inl x5), some (.inl x6), wx7] [] M) (kf : x4 = (ld M 93 x2) → XW kX12_fuse d (some .int) (wQi Q) 148 [some (.inr (.inr 92)), some (.inl x1), some (.inl x2), some (.inl x3), some (.inl x4), some (.inl x5), some (.inl x6), wx7] [] M) : XW kX12_fuse d (some .int) (wQi Q) 137 [some (.inr (.inr 92)), some (.inl x1), some (.inl x2), some (.inl x3), some (.inl x4), some (.inl x5), some (.inl x6), wx7] [] M := by
  refine x_iload rfl rfl ?_
  refine x_aload_n rfl rfl ?_
  refine x_getR rfl sh92 rfl ?_
  refine x_iload_n rfl rfl ?_
  refine x_iaload rfl ⟨sh93, Nat.le_of_ble_eq_true rfl⟩ h1 ?_
  exact x_icmpne rfl h2 (rng_ld _ _ _) kt kf
theorem uX12_fuse_148 {d : Nat} {Q : Int → yM → Prop} {M : yM} {x1 : Int} {x2 : Int} {x3 : Int} {x4 : Int} {x5 : Int} {x6 : Int} {wx7 : Option yV} (h1 : 0 ≤ x1 ∧ x1 < 8) (h2 : -2147483648 ≤ x6 ∧ x6 < 2147483648) (kt : x6 = (ld M 93 x1) → XW kX12_fuse d (some .int) (wQi Q) 170 [some (.inr (.inr 92)), some (.inl x1), some (.inl x2), some (.inl x3), some (.inl x4), some (.inl x5), some (.inl x6), wx7] [] M) (kf : x6 ≠ (ld M 93 x1) → XW kX12_fuse d (some .int) (wQi Q) 159 [some (.inr (.inr 92)), some (.inl x1), some (.inl x2), some (.inl x3), some (.inl x4), some (.inl x5), some (.inl x6), wx7] [] M) : XW kX12_fuse d (some .int) (wQi Q) 148 [some (.inr (.inr 92)), some (.inl x1), some (.inl x2), some (.inl x3), some (.inl x4), some (.inl x5), some (.inl x6), wx7] [] M := by
  refine x_iload rfl rfl ?_
  refine x_aload_n rfl rfl ?_
  refine x_getR rfl sh92 rfl ?_
  refine x_iload_n rfl rfl ?_
  refine x_iaload rfl ⟨sh93, Nat.le_of_ble_eq_true rfl⟩ h1 ?_
  exact x_icmpeq rfl h2 (rng_ld _ _ _) kt kf
theorem uX12_fuse_159 {d : Nat} {Q : Int → yM → Prop} {M : yM} {x1 : Int} {x2 : Int} {x3 : Int} {x4 : Int} {x5 : Int} {x6 : Int} {wx7 : Option yV} (h1 : 0 ≤ x2 ∧ x2 < 8) (h2 : -2147483648 ≤ x6 ∧ x6 < 2147483648) (kt : x6 ≠ (ld M 93 x2) → XW kX12_fuse d (some .int) (wQi Q) 174 [some (.inr (.inr 92)), some (.inl x1), some (.inl x2), some (.inl x3), some (.inl x4), some (.inl x5), some (.inl x6), wx7] [] M) (kf : x6 = (ld M 93 x2) → XW kX12_fuse d (some .int) (wQi Q) 170 [some (.inr (.inr 92)), some (.inl x1), some (.inl x2), some (.inl x3), some (.inl x4), some (.inl x5), some (.inl x6), wx7] [] M) : XW kX12_fuse d (some .int) (wQi Q) 159 [some (.inr (.inr 92)), some (.inl x1), some (.inl x2), some (.inl x3), some (.inl x4), some (.inl x5), some (.inl x6), wx7] [] M := by
  refine x_iload rfl rfl ?_
  refine x_aload_n rfl rfl ?_
  refine x_getR rfl sh92 rfl ?_
  refine x_iload_n rfl rfl ?_
  refine x_iaload rfl ⟨sh93, Nat.le_of_ble_eq_true rfl⟩ h1 ?_
  exact x_icmpne rfl h2 (rng_ld _ _ _) kt kf
theorem uX12_fuse_170 {d : Nat} {Q : Int → yM → Prop} {M : yM} {x1 : Int} {x2 : Int} {x3 : Int} {x4 : Int} {x5 : Int} {x6 : Int} {wx7 : Option yV} (k : XW kX12_fuse d (some .int) (wQi Q) 175 [some (.inr (.inr 92)), some (.inl x1), some (.inl x2), some (.inl x3), some (.inl x4), some (.inl x5), some (.inl x6), wx7] [.inl 1] M) : XW kX12_fuse d (some .int) (wQi Q) 170 [some (.inr (.inr 92)), some (.inl x1), some (.inl x2), some (.inl x3), some (.inl x4), some (.inl x5), some (.inl x6), wx7] [] M := by
  refine x_iconst 1 rfl (by decide) ?_
  exact x_goto rfl k
theorem uX12_fuse_174 {d : Nat} {Q : Int → yM → Prop} {M : yM} {x1 : Int} {x2 : Int} {x3 : Int} {x4 : Int} {x5 : Int} {x6 : Int} {wx7 : Option yV} (k : XW kX12_fuse d (some .int) (wQi Q) 175 [some (.inr (.inr 92)), some (.inl x1), some (.inl x2), some (.inl x3), some (.inl x4), some (.inl x5), some (.inl x6), wx7] [.inl 0] M) : XW kX12_fuse d (some .int) (wQi Q) 174 [some (.inr (.inr 92)), some (.inl x1), some (.inl x2), some (.inl x3), some (.inl x4), some (.inl x5), some (.inl x6), wx7] [] M := by
  refine x_iconst 0 rfl (by decide) ?_
  exact k
theorem uX12_fuse_175 {d : Nat} {Q : Int → yM → Prop} {M : yM} {x1 : Int} {x2 : Int} {x3 : Int} {x4 : Int} {x5 : Int} {x6 : Int} {wx7 : Option yV} {s0 : Int} (h1 : -2147483648 ≤ s0 ∧ s0 < 2147483648) (kt : s0 = 0 → XW kX12_fuse d (some .int) (wQi Q) 194 [some (.inr (.inr 92)), some (.inl x1), some (.inl x2), some (.inl x3), some (.inl x4), some (.inl x5), some (.inl x6), some (.inl s0)] [] M) (kf : s0 ≠ 0 → XW kX12_fuse d (some .int) (wQi Q) 182 [some (.inr (.inr 92)), some (.inl x1), some (.inl x2), some (.inl x3), some (.inl x4), some (.inl x5), some (.inl x6), some (.inl s0)] [] M) : XW kX12_fuse d (some .int) (wQi Q) 175 [some (.inr (.inr 92)), some (.inl x1), some (.inl x2), some (.inl x3), some (.inl x4), some (.inl x5), some (.inl x6), wx7] [.inl s0] M := by
  refine x_istore rfl (Nat.le_of_ble_eq_true rfl) rfl ?_
  refine x_iload rfl rfl ?_
  exact x_ifeq rfl h1 kt kf
theorem uX12_fuse_182 {d : Nat} {Q : Int → yM → Prop} {M : yM} {x1 : Int} {x2 : Int} {x3 : Int} {x4 : Int} {x5 : Int} {x6 : Int} {x7 : Int} (h1 : -2147483648 ≤ x5 ∧ x5 < 2147483648) (h2 : -2147483648 ≤ x4 ∧ x4 < 2147483648) (kt : x5 ≠ x4 → XW kX12_fuse d (some .int) (wQi Q) 194 [some (.inr (.inr 92)), some (.inl x1), some (.inl x2), some (.inl x3), some (.inl x4), some (.inl x5), some (.inl x6), some (.inl x7)] [] M) (kf : x5 = x4 → XW kX12_fuse d (some .int) (wQi Q) 189 [some (.inr (.inr 92)), some (.inl x1), some (.inl x2), some (.inl x3), some (.inl x4), some (.inl x5), some (.inl x6), some (.inl x7)] [] M) : XW kX12_fuse d (some .int) (wQi Q) 182 [some (.inr (.inr 92)), some (.inl x1), some (.inl x2), some (.inl x3), some (.inl x4), some (.inl x5), some (.inl x6), some (.inl x7)] [] M := by
  refine x_iload rfl rfl ?_
  refine x_iload rfl rfl ?_
  exact x_icmpne rfl h1 h2 kt kf
theorem uX12_fuse_189 {d : Nat} {Q : Int → yM → Prop} {M : yM} {x1 : Int} {x2 : Int} {x3 : Int} {x4 : Int} {x5 : Int} {x6 : Int} {x7 : Int} (k : XW kX12_fuse d (some .int) (wQi Q) 196 [some (.inr (.inr 92)), some (.inl x1), some (.inl x2), some (.inl x3), some (.inl x4), some (.inl x5), some (.inl x6), some (.inl x7)] [.inl x6] M) : XW kX12_fuse d (some .int) (wQi Q) 189 [some (.inr (.inr 92)), some (.inl x1), some (.inl x2), some (.inl x3), some (.inl x4), some (.inl x5), some (.inl x6), some (.inl x7)] [] M := by
  refine x_iload rfl rfl ?_
  exact x_goto rfl k
theorem uX12_fuse_194 {d : Nat} {Q : Int → yM → Prop} {M : yM} {x1 : Int} {x2 : Int} {x3 : Int} {x4 : Int} {x5 : Int} {x6 : Int} {x7 : Int} (k : XW kX12_fuse d (some .int) (wQi Q) 196 [some (.inr (.inr 92)), some (.inl x1), some (.inl x2), some (.inl x3), some (.inl x4), some (.inl x5), some (.inl x6), some (.inl x7)] [.inl x5] M) : XW kX12_fuse d (some .int) (wQi Q) 194 [some (.inr (.inr 92)), some (.inl x1), some (.inl x2), some (.inl x3), some (.inl x4), some (.inl x5), some (.inl x6), some (.inl x7)] [] M := by
  refine x_iload rfl rfl ?_
  exact k
theorem uX12_fuse_196 {d : Nat} {Q : Int → yM → Prop} {M : yM} {x1 : Int} {x2 : Int} {x3 : Int} {x4 : Int} {x5 : Int} {x6 : Int} {x7 : Int} {s0 : Int} (k : XW kX12_fuse d (some .int) (wQi Q) 95 [some (.inr (.inr 92)), some (.inl x1), some (.inl x2), some (.inl x3), some (.inl x4), some (.inl s0), some (.inl (x6 + 1)), some (.inl x7)] [] M) : XW kX12_fuse d (some .int) (wQi Q) 196 [some (.inr (.inr 92)), some (.inl x1), some (.inl x2), some (.inl x3), some (.inl x4), some (.inl x5), some (.inl x6), some (.inl x7)] [.inl s0] M := by
  refine x_istore rfl (Nat.le_of_ble_eq_true rfl) rfl ?_
  refine x_iinc 1 rfl (by decide) rfl rfl ?_
  exact x_goto rfl k
theorem uX12_fuse_204 {d : Nat} {Q : Int → yM → Prop} {M : yM} {x1 : Int} {x2 : Int} {x3 : Int} {x4 : Int} {x5 : Int} {x6 : Int} {wx7 : Option yV} (h1 : -2147483648 ≤ x5 ∧ x5 < 2147483648) (h2 : -2147483648 ≤ x4 ∧ x4 < 2147483648) (kt : x5 ≠ x4 → XW kX12_fuse d (some .int) (wQi Q) 221 [some (.inr (.inr 92)), some (.inl x1), some (.inl x2), some (.inl x3), some (.inl x4), some (.inl x5), some (.inl x6), wx7] [.inl x4, .inr (.inr 99)] M) (kf : x5 = x4 → XW kX12_fuse d (some .int) (wQi Q) 217 [some (.inr (.inr 92)), some (.inl x1), some (.inl x2), some (.inl x3), some (.inl x4), some (.inl x5), some (.inl x6), wx7] [.inl x4, .inr (.inr 99)] M) : XW kX12_fuse d (some .int) (wQi Q) 204 [some (.inr (.inr 92)), some (.inl x1), some (.inl x2), some (.inl x3), some (.inl x4), some (.inl x5), some (.inl x6), wx7] [] M := by
  refine x_aload_n rfl rfl ?_
  refine x_getR rfl sh92 rfl ?_
  refine x_iload rfl rfl ?_
  refine x_iload rfl rfl ?_
  refine x_iload rfl rfl ?_
  exact x_icmpne rfl h1 h2 kt kf
theorem uX12_fuse_217 {d : Nat} {Q : Int → yM → Prop} {M : yM} {x1 : Int} {x2 : Int} {x3 : Int} {x4 : Int} {x5 : Int} {x6 : Int} {wx7 : Option yV} {s0 : Int} (k : XW kX12_fuse d (some .int) (wQi Q) 228 [some (.inr (.inr 92)), some (.inl x1), some (.inl x2), some (.inl x3), some (.inl x4), some (.inl x5), some (.inl x6), wx7] [.inl x3, .inl s0, .inr (.inr 99)] M) : XW kX12_fuse d (some .int) (wQi Q) 217 [some (.inr (.inr 92)), some (.inl x1), some (.inl x2), some (.inl x3), some (.inl x4), some (.inl x5), some (.inl x6), wx7] [.inl s0, .inr (.inr 99)] M := by
  refine x_iload_n rfl rfl ?_
  exact x_goto rfl k
theorem uX12_fuse_221 {d : Nat} {Q : Int → yM → Prop} {M : yM} {x1 : Int} {x2 : Int} {x3 : Int} {x4 : Int} {x5 : Int} {x6 : Int} {wx7 : Option yV} {s0 : Int} (h1 : 0 ≤ x5 ∧ x5 < 8) (k : XW kX12_fuse d (some .int) (wQi Q) 228 [some (.inr (.inr 92)), some (.inl x1), some (.inl x2), some (.inl x3), some (.inl x4), some (.inl x5), some (.inl x6), wx7] [.inl (ld M 99 x5), .inl s0, .inr (.inr 99)] M) : XW kX12_fuse d (some .int) (wQi Q) 221 [some (.inr (.inr 92)), some (.inl x1), some (.inl x2), some (.inl x3), some (.inl x4), some (.inl x5), some (.inl x6), wx7] [.inl s0, .inr (.inr 99)] M := by
  refine x_aload_n rfl rfl ?_
  refine x_getR rfl sh92 rfl ?_
  refine x_iload rfl rfl ?_
  refine x_iaload rfl ⟨sh99, Nat.le_of_ble_eq_true rfl⟩ h1 ?_
  exact k
theorem uX12_fuse_228 {d : Nat} {Q : Int → yM → Prop} {M : yM} {x1 : Int} {x2 : Int} {x3 : Int} {x4 : Int} {x5 : Int} {x6 : Int} {wx7 : Option yV} {s0 : Int} {s1 : Int} (h1 : 0 ≤ s1 ∧ s1 < 8) (k : ∀ M', M' = (put M 99 s1 s0) → XW kX12_fuse d (some .int) (wQi Q) 229 [some (.inr (.inr 92)), some (.inl x1), some (.inl x2), some (.inl x3), some (.inl x4), some (.inl x5), some (.inl x6), wx7] [] M') : XW kX12_fuse d (some .int) (wQi Q) 228 [some (.inr (.inr 92)), some (.inl x1), some (.inl x2), some (.inl x3), some (.inl x4), some (.inl x5), some (.inl x6), wx7] [.inl s0, .inl s1, .inr (.inr 99)] M := by
  refine x_iastore rfl ⟨sh99, Nat.le_of_ble_eq_true rfl⟩ h1  ?_
  exact k _ rfl
theorem uX12_fuse_229 {d : Nat} {Q : Int → yM → Prop} {M : yM} {x1 : Int} {x2 : Int} {x3 : Int} {x4 : Int} {x5 : Int} {x6 : Int} {wx7 : Option yV} (h1 : -2147483648 ≤ x5 ∧ x5 < 2147483648) (h2 : -2147483648 ≤ x4 ∧ x4 < 2147483648) (kt : x5 ≠ x4 → XW kX12_fuse d (some .int) (wQi Q) 241 [some (.inr (.inr 92)), some (.inl x1), some (.inl x2), some (.inl x3), some (.inl x4), some (.inl x5), some (.inl x6), wx7] [.inl x3] M) (kf : x5 = x4 → XW kX12_fuse d (some .int) (wQi Q) 237 [some (.inr (.inr 92)), some (.inl x1), some (.inl x2), some (.inl x3), some (.inl x4), some (.inl x5), some (.inl x6), wx7] [.inl x3] M) : XW kX12_fuse d (some .int) (wQi Q) 229 [some (.inr (.inr 92)), some (.inl x1), some (.inl x2), some (.inl x3), some (.inl x4), some (.inl x5), some (.inl x6), wx7] [] M := by
  refine x_iload_n rfl rfl ?_
  refine x_iload rfl rfl ?_
  refine x_iload rfl rfl ?_
  exact x_icmpne rfl h1 h2 kt kf
theorem uX12_fuse_237 {d : Nat} {Q : Int → yM → Prop} {M : yM} {x1 : Int} {x2 : Int} {x3 : Int} {x4 : Int} {x5 : Int} {x6 : Int} {wx7 : Option yV} {s0 : Int} (k : XW kX12_fuse d (some .int) (wQi Q) 242 [some (.inr (.inr 92)), some (.inl x1), some (.inl x2), some (.inl x3), some (.inl x4), some (.inl x5), some (.inl x6), wx7] [.inl 1, .inl s0] M) : XW kX12_fuse d (some .int) (wQi Q) 237 [some (.inr (.inr 92)), some (.inl x1), some (.inl x2), some (.inl x3), some (.inl x4), some (.inl x5), some (.inl x6), wx7] [.inl s0] M := by
  refine x_iconst 1 rfl (by decide) ?_
  exact x_goto rfl k
theorem uX12_fuse_241 {d : Nat} {Q : Int → yM → Prop} {M : yM} {x1 : Int} {x2 : Int} {x3 : Int} {x4 : Int} {x5 : Int} {x6 : Int} {wx7 : Option yV} {s0 : Int} (k : XW kX12_fuse d (some .int) (wQi Q) 242 [some (.inr (.inr 92)), some (.inl x1), some (.inl x2), some (.inl x3), some (.inl x4), some (.inl x5), some (.inl x6), wx7] [.inl 0, .inl s0] M) : XW kX12_fuse d (some .int) (wQi Q) 241 [some (.inr (.inr 92)), some (.inl x1), some (.inl x2), some (.inl x3), some (.inl x4), some (.inl x5), some (.inl x6), wx7] [.inl s0] M := by
  refine x_iconst 0 rfl (by decide) ?_
  exact k
theorem uX12_fuse_242 {d : Nat} {Q : Int → yM → Prop} {M : yM} {x1 : Int} {x2 : Int} {x3 : Int} {x4 : Int} {x5 : Int} {x6 : Int} {wx7 : Option yV} {s0 : Int} {s1 : Int} (k : XW kX12_fuse d (some .int) (wQi Q) 79 [some (.inr (.inr 92)), some (.inl x1), some (.inl x2), some (.inl (s1 + s0)), some (.inl (x4 + 1)), some (.inl x5), some (.inl x6), wx7] [] M) : XW kX12_fuse d (some .int) (wQi Q) 242 [some (.inr (.inr 92)), some (.inl x1), some (.inl x2), some (.inl x3), some (.inl x4), some (.inl x5), some (.inl x6), wx7] [.inl s0, .inl s1] M := by
  refine x_iadd rfl ?_
  refine x_istore_n rfl (Nat.le_of_ble_eq_true rfl) rfl ?_
  refine x_iinc 1 rfl (by decide) rfl rfl ?_
  exact x_goto rfl k
theorem uX12_fuse_250 {d : Nat} {Q : Int → yM → Prop} {M : yM} {x1 : Int} {x2 : Int} {x3 : Int} {x4 : Int} {wx5 : Option yV} {wx6 : Option yV} {wx7 : Option yV} (k : XW kX12_fuse d (some .int) (wQi Q) 253 [some (.inr (.inr 92)), some (.inl x1), some (.inl x2), some (.inl x3), some (.inl 0), wx5, wx6, wx7] [] M) : XW kX12_fuse d (some .int) (wQi Q) 250 [some (.inr (.inr 92)), some (.inl x1), some (.inl x2), some (.inl x3), some (.inl x4), wx5, wx6, wx7] [] M := by
  refine x_iconst 0 rfl (by decide) ?_
  refine x_istore rfl (Nat.le_of_ble_eq_true rfl) rfl ?_
  exact k
theorem uX12_fuse_253 {d : Nat} {Q : Int → yM → Prop} {M : yM} {x1 : Int} {x2 : Int} {x3 : Int} {x4 : Int} {wx5 : Option yV} {wx6 : Option yV} {wx7 : Option yV} (h1 : -2147483648 ≤ x4 ∧ x4 < 2147483648) (kt : x4 ≥ 64 → XW kX12_fuse d (some .int) (wQi Q) 274 [some (.inr (.inr 92)), some (.inl x1), some (.inl x2), some (.inl x3), some (.inl x4), wx5, wx6, wx7] [] M) (kf : x4 < 64 → XW kX12_fuse d (some .int) (wQi Q) 260 [some (.inr (.inr 92)), some (.inl x1), some (.inl x2), some (.inl x3), some (.inl x4), wx5, wx6, wx7] [] M) : XW kX12_fuse d (some .int) (wQi Q) 253 [some (.inr (.inr 92)), some (.inl x1), some (.inl x2), some (.inl x3), some (.inl x4), wx5, wx6, wx7] [] M := by
  refine x_iload rfl rfl ?_
  refine x_bipush 64 rfl (by decide) ?_
  exact x_icmpge rfl h1 (by decide) kt kf
theorem uX12_fuse_260 {d : Nat} {Q : Int → yM → Prop} {M : yM} {x1 : Int} {x2 : Int} {x3 : Int} {x4 : Int} {wx5 : Option yV} {wx6 : Option yV} {wx7 : Option yV} (h1 : 0 ≤ x4 ∧ x4 < 64) (k : ∀ M', M' = (put M 98 x4 0) → XW kX12_fuse d (some .int) (wQi Q) 268 [some (.inr (.inr 92)), some (.inl x1), some (.inl x2), some (.inl x3), some (.inl x4), wx5, wx6, wx7] [] M') : XW kX12_fuse d (some .int) (wQi Q) 260 [some (.inr (.inr 92)), some (.inl x1), some (.inl x2), some (.inl x3), some (.inl x4), wx5, wx6, wx7] [] M := by
  refine x_aload_n rfl rfl ?_
  refine x_getR rfl sh92 rfl ?_
  refine x_iload rfl rfl ?_
  refine x_iconst 0 rfl (by decide) ?_
  refine x_iastore rfl ⟨sh98, Nat.le_of_ble_eq_true rfl⟩ h1  ?_
  exact k _ rfl
theorem uX12_fuse_268 {d : Nat} {Q : Int → yM → Prop} {M : yM} {x1 : Int} {x2 : Int} {x3 : Int} {x4 : Int} {wx5 : Option yV} {wx6 : Option yV} {wx7 : Option yV} (k : XW kX12_fuse d (some .int) (wQi Q) 253 [some (.inr (.inr 92)), some (.inl x1), some (.inl x2), some (.inl x3), some (.inl (x4 + 1)), wx5, wx6, wx7] [] M) : XW kX12_fuse d (some .int) (wQi Q) 268 [some (.inr (.inr 92)), some (.inl x1), some (.inl x2), some (.inl x3), some (.inl x4), wx5, wx6, wx7] [] M := by
  refine x_iinc 1 rfl (by decide) rfl rfl ?_
  exact x_goto rfl k
theorem uX12_fuse_274 {d : Nat} {Q : Int → yM → Prop} {M : yM} {x1 : Int} {x2 : Int} {x3 : Int} {x4 : Int} {wx5 : Option yV} {wx6 : Option yV} {wx7 : Option yV} (k : XW kX12_fuse d (some .int) (wQi Q) 277 [some (.inr (.inr 92)), some (.inl x1), some (.inl x2), some (.inl x3), some (.inl 0), wx5, wx6, wx7] [] M) : XW kX12_fuse d (some .int) (wQi Q) 274 [some (.inr (.inr 92)), some (.inl x1), some (.inl x2), some (.inl x3), some (.inl x4), wx5, wx6, wx7] [] M := by
  refine x_iconst 0 rfl (by decide) ?_
  refine x_istore rfl (Nat.le_of_ble_eq_true rfl) rfl ?_
  exact k
theorem uX12_fuse_277 {d : Nat} {Q : Int → yM → Prop} {M : yM} {x1 : Int} {x2 : Int} {x3 : Int} {x4 : Int} {wx5 : Option yV} {wx6 : Option yV} {wx7 : Option yV} (h1 : -2147483648 ≤ x4 ∧ x4 < 2147483648) (kt : x4 ≥ (ld M 92 2) → XW kX12_fuse d (some .int) (wQi Q) 404 [some (.inr (.inr 92)), some (.inl x1), some (.inl x2), some (.inl x3), some (.inl x4), wx5, wx6, wx7] [] M) (kf : x4 < (ld M 92 2) → XW kX12_fuse d (some .int) (wQi Q) 286 [some (.inr (.inr 92)), some (.inl x1), some (.inl x2), some (.inl x3), some (.inl x4), wx5, wx6, wx7] [] M) : XW kX12_fuse d (some .int) (wQi Q) 277 [some (.inr (.inr 92)), some (.inl x1), some (.inl x2), some (.inl x3), some (.inl x4), wx5, wx6, wx7] [] M := by
  refine x_iload rfl rfl ?_
  refine x_aload_n rfl rfl ?_
  refine x_getI rfl sh92 rfl ?_
  exact x_icmpge rfl h1 (rng_ld _ _ _) kt kf
theorem uX12_fuse_286 {d : Nat} {Q : Int → yM → Prop} {M : yM} {x1 : Int} {x2 : Int} {x3 : Int} {x4 : Int} {wx5 : Option yV} {wx6 : Option yV} {wx7 : Option yV} (h1 : 0 ≤ x4 ∧ x4 < 8) (h2 : 0 ≤ x4 ∧ x4 < 8) (h3 : 0 ≤ (ld M 93 x4) ∧ (ld M 93 x4) < 8) (h4 : 0 ≤ (ld M 99 x4) ∧ (ld M 99 x4) < 8) (k : ∀ M', M' = (put M 97 (ld M 99 x4) (ld M 99 (ld M 93 x4))) → XW kX12_fuse d (some .int) (wQi Q) 310 [some (.inr (.inr 92)), some (.inl x1), some (.inl x2), some (.inl x3), some (.inl x4), wx5, wx6, wx7] [] M') : XW kX12_fuse d (some .int) (wQi Q) 286 [some (.inr (.inr 92)), some (.inl x1), some (.inl x2), some (.inl x3), some (.inl x4), wx5, wx6, wx7] [] M := by
  refine x_aload_n rfl rfl ?_
  refine x_getR rfl sh92 rfl ?_
  refine x_aload_n rfl rfl ?_
  refine x_getR rfl sh92 rfl ?_
  refine x_iload rfl rfl ?_
  refine x_iaload rfl ⟨sh99, Nat.le_of_ble_eq_true rfl⟩ h1 ?_
  refine x_aload_n rfl rfl ?_
  refine x_getR rfl sh92 rfl ?_
  refine x_aload_n rfl rfl ?_
  refine x_getR rfl sh92 rfl ?_
  refine x_iload rfl rfl ?_
  refine x_iaload rfl ⟨sh93, Nat.le_of_ble_eq_true rfl⟩ h2 ?_
  refine x_iaload rfl ⟨sh99, Nat.le_of_ble_eq_true rfl⟩ h3 ?_
  refine x_iastore rfl ⟨sh97, Nat.le_of_ble_eq_true rfl⟩ h4  ?_
  exact k _ rfl
theorem uX12_fuse_310 {d : Nat} {Q : Int → yM → Prop} {M : yM} {x1 : Int} {x2 : Int} {x3 : Int} {x4 : Int} {wx5 : Option yV} {wx6 : Option yV} {wx7 : Option yV} (k : XW kX12_fuse d (some .int) (wQi Q) 313 [some (.inr (.inr 92)), some (.inl x1), some (.inl x2), some (.inl x3), some (.inl x4), some (.inl 0), wx6, wx7] [] M) : XW kX12_fuse d (some .int) (wQi Q) 310 [some (.inr (.inr 92)), some (.inl x1), some (.inl x2), some (.inl x3), some (.inl x4), wx5, wx6, wx7] [] M := by
  refine x_iconst 0 rfl (by decide) ?_
  refine x_istore rfl (Nat.le_of_ble_eq_true rfl) rfl ?_
  exact k
theorem uX12_fuse_313 {d : Nat} {Q : Int → yM → Prop} {M : yM} {x1 : Int} {x2 : Int} {x3 : Int} {x4 : Int} {x5 : Int} {wx6 : Option yV} {wx7 : Option yV} (h1 : -2147483648 ≤ x5 ∧ x5 < 2147483648) (kt : x5 ≥ (ld M 92 2) → XW kX12_fuse d (some .int) (wQi Q) 398 [some (.inr (.inr 92)), some (.inl x1), some (.inl x2), some (.inl x3), some (.inl x4), some (.inl x5), wx6, wx7] [] M) (kf : x5 < (ld M 92 2) → XW kX12_fuse d (some .int) (wQi Q) 322 [some (.inr (.inr 92)), some (.inl x1), some (.inl x2), some (.inl x3), some (.inl x4), some (.inl x5), wx6, wx7] [] M) : XW kX12_fuse d (some .int) (wQi Q) 313 [some (.inr (.inr 92)), some (.inl x1), some (.inl x2), some (.inl x3), some (.inl x4), some (.inl x5), wx6, wx7] [] M := by
  refine x_iload rfl rfl ?_
  refine x_aload_n rfl rfl ?_
  refine x_getI rfl sh92 rfl ?_
  exact x_icmpge rfl h1 (rng_ld _ _ _) kt kf
theorem uX12_fuse_322 {d : Nat} {Q : Int → yM → Prop} {M : yM} {x1 : Int} {x2 : Int} {x3 : Int} {x4 : Int} {x5 : Int} {wx6 : Option yV} {wx7 : Option yV} (k : XW kX12_fuse d (some .int) (wQi Q) 325 [some (.inr (.inr 92)), some (.inl x1), some (.inl x2), some (.inl x3), some (.inl x4), some (.inl x5), some (.inl 0), wx7] [] M) : XW kX12_fuse d (some .int) (wQi Q) 322 [some (.inr (.inr 92)), some (.inl x1), some (.inl x2), some (.inl x3), some (.inl x4), some (.inl x5), wx6, wx7] [] M := by
  refine x_iconst 0 rfl (by decide) ?_
  refine x_istore rfl (Nat.le_of_ble_eq_true rfl) rfl ?_
  exact k
theorem uX12_fuse_325 {d : Nat} {Q : Int → yM → Prop} {M : yM} {x1 : Int} {x2 : Int} {x3 : Int} {x4 : Int} {x5 : Int} {x6 : Int} {wx7 : Option yV} (h1 : -2147483648 ≤ x6 ∧ x6 < 2147483648) (kt : x6 ≥ (ld M 92 2) → XW kX12_fuse d (some .int) (wQi Q) 392 [some (.inr (.inr 92)), some (.inl x1), some (.inl x2), some (.inl x3), some (.inl x4), some (.inl x5), some (.inl x6), wx7] [] M) (kf : x6 < (ld M 92 2) → XW kX12_fuse d (some .int) (wQi Q) 334 [some (.inr (.inr 92)), some (.inl x1), some (.inl x2), some (.inl x3), some (.inl x4), some (.inl x5), some (.inl x6), wx7] [] M) : XW kX12_fuse d (some .int) (wQi Q) 325 [some (.inr (.inr 92)), some (.inl x1), some (.inl x2), some (.inl x3), some (.inl x4), some (.inl x5), some (.inl x6), wx7] [] M := by
  refine x_iload rfl rfl ?_
  refine x_aload_n rfl rfl ?_
  refine x_getI rfl sh92 rfl ?_
  exact x_icmpge rfl h1 (rng_ld _ _ _) kt kf
theorem uX12_fuse_334 {d : Nat} {Q : Int → yM → Prop} {M : yM} {x1 : Int} {x2 : Int} {x3 : Int} {x4 : Int} {x5 : Int} {x6 : Int} {wx7 : Option yV} (h1 : 0 ≤ x4 ∧ x4 < 8) (h2 : 0 ≤ x5 ∧ x5 < 8) (h3 : 0 ≤ ((8 * (ld M 99 x4)) + (ld M 99 x5)) ∧ ((8 * (ld M 99 x4)) + (ld M 99 x5)) < 64) (k : XCi d 125 [.inr (.inr 92), .inl x4, .inl x5, .inl x6] M (fun v M' => XW kX12_fuse (d + 1) (some .int) (wQi Q) 368 [some (.inr (.inr 92)), some (.inl x1), some (.inl x2), some (.inl x3), some (.inl x4), some (.inl x5), some (.inl x6), wx7] [.inl v, .inl (ld M 98 ((8 * (ld M 99 x4)) + (ld M 99 x5))), .inl ((8 * (ld M 99 x4)) + (ld M 99 x5)), .inr (.inr 98)] M')) : XW kX12_fuse (d + 1) (some .int) (wQi Q) 334 [some (.inr (.inr 92)), some (.inl x1), some (.inl x2), some (.inl x3), some (.inl x4), some (.inl x5), some (.inl x6), wx7] [] M := by
  refine x_aload_n rfl rfl ?_
  refine x_getR rfl sh92 rfl ?_
  refine x_bipush 8 rfl (by decide) ?_
  refine x_aload_n rfl rfl ?_
  refine x_getR rfl sh92 rfl ?_
  refine x_iload rfl rfl ?_
  refine x_iaload rfl ⟨sh99, Nat.le_of_ble_eq_true rfl⟩ h1 ?_
  refine x_imul rfl ?_
  refine x_aload_n rfl rfl ?_
  refine x_getR rfl sh92 rfl ?_
  refine x_iload rfl rfl ?_
  refine x_iaload rfl ⟨sh99, Nat.le_of_ble_eq_true rfl⟩ h2 ?_
  refine x_iadd rfl ?_
  refine x_dup2 rfl ?_
  refine x_iaload rfl ⟨sh98, Nat.le_of_ble_eq_true rfl⟩ h3 ?_
  refine x_aload_n rfl rfl ?_
  refine x_iload rfl rfl ?_
  refine x_iload rfl rfl ?_
  refine x_iload rfl rfl ?_
  exact x_calli (args := [.inr (.inr 92), .inl x4, .inl x5, .inl x6]) rfl rfl rfl k
theorem uX12_fuse_368 {d : Nat} {Q : Int → yM → Prop} {M : yM} {x1 : Int} {x2 : Int} {x3 : Int} {x4 : Int} {x5 : Int} {x6 : Int} {wx7 : Option yV} {s0 : Int} {s1 : Int} {s2 : Int} (h1 : -2147483648 ≤ s0 ∧ s0 < 2147483648) (kt : s0 = 0 → XW kX12_fuse d (some .int) (wQi Q) 383 [some (.inr (.inr 92)), some (.inl x1), some (.inl x2), some (.inl x3), some (.inl x4), some (.inl x5), some (.inl x6), wx7] [.inl s1, .inl s2, .inr (.inr 98)] M) (kf : s0 ≠ 0 → XW kX12_fuse d (some .int) (wQi Q) 371 [some (.inr (.inr 92)), some (.inl x1), some (.inl x2), some (.inl x3), some (.inl x4), some (.inl x5), some (.inl x6), wx7] [.inl s1, .inl s2, .inr (.inr 98)] M) : XW kX12_fuse d (some .int) (wQi Q) 368 [some (.inr (.inr 92)), some (.inl x1), some (.inl x2), some (.inl x3), some (.inl x4), some (.inl x5), some (.inl x6), wx7] [.inl s0, .inl s1, .inl s2, .inr (.inr 98)] M := by
  exact x_ifeq rfl h1 kt kf
theorem uX12_fuse_371 {d : Nat} {Q : Int → yM → Prop} {M : yM} {x1 : Int} {x2 : Int} {x3 : Int} {x4 : Int} {x5 : Int} {x6 : Int} {wx7 : Option yV} {s0 : Int} {s1 : Int} (h1 : 0 ≤ x6 ∧ x6 < 8) (k : XW kX12_fuse d (some .int) (wQi Q) 384 [some (.inr (.inr 92)), some (.inl x1), some (.inl x2), some (.inl x3), some (.inl x4), some (.inl x5), some (.inl x6), wx7] [.inl (yshl 1 (ld M 99 x6)), .inl s0, .inl s1, .inr (.inr 98)] M) : XW kX12_fuse d (some .int) (wQi Q) 371 [some (.inr (.inr 92)), some (.inl x1), some (.inl x2), some (.inl x3), some (.inl x4), some (.inl x5), some (.inl x6), wx7] [.inl s0, .inl s1, .inr (.inr 98)] M := by
  refine x_iconst 1 rfl (by decide) ?_
  refine x_aload_n rfl rfl ?_
  refine x_getR rfl sh92 rfl ?_
  refine x_iload rfl rfl ?_
  refine x_iaload rfl ⟨sh99, Nat.le_of_ble_eq_true rfl⟩ h1 ?_
  refine x_ishl rfl ?_
  exact x_goto rfl k
theorem uX12_fuse_383 {d : Nat} {Q : Int → yM → Prop} {M : yM} {x1 : Int} {x2 : Int} {x3 : Int} {x4 : Int} {x5 : Int} {x6 : Int} {wx7 : Option yV} {s0 : Int} {s1 : Int} (k : XW kX12_fuse d (some .int) (wQi Q) 384 [some (.inr (.inr 92)), some (.inl x1), some (.inl x2), some (.inl x3), some (.inl x4), some (.inl x5), some (.inl x6), wx7] [.inl 0, .inl s0, .inl s1, .inr (.inr 98)] M) : XW kX12_fuse d (some .int) (wQi Q) 383 [some (.inr (.inr 92)), some (.inl x1), some (.inl x2), some (.inl x3), some (.inl x4), some (.inl x5), some (.inl x6), wx7] [.inl s0, .inl s1, .inr (.inr 98)] M := by
  refine x_iconst 0 rfl (by decide) ?_
  exact k
theorem uX12_fuse_384 {d : Nat} {Q : Int → yM → Prop} {M : yM} {x1 : Int} {x2 : Int} {x3 : Int} {x4 : Int} {x5 : Int} {x6 : Int} {wx7 : Option yV} {s0 : Int} {s1 : Int} {s2 : Int} (h1 : 0 ≤ s2 ∧ s2 < 64) (k : ∀ M', M' = (put M 98 s2 (yor s1 s0)) → XW kX12_fuse d (some .int) (wQi Q) 386 [some (.inr (.inr 92)), some (.inl x1), some (.inl x2), some (.inl x3), some (.inl x4), some (.inl x5), some (.inl x6), wx7] [] M') : XW kX12_fuse d (some .int) (wQi Q) 384 [some (.inr (.inr 92)), some (.inl x1), some (.inl x2), some (.inl x3), some (.inl x4), some (.inl x5), some (.inl x6), wx7] [.inl s0, .inl s1, .inl s2, .inr (.inr 98)] M := by
  refine x_ior rfl ?_
  refine x_iastore rfl ⟨sh98, Nat.le_of_ble_eq_true rfl⟩ h1  ?_
  exact k _ rfl
theorem uX12_fuse_386 {d : Nat} {Q : Int → yM → Prop} {M : yM} {x1 : Int} {x2 : Int} {x3 : Int} {x4 : Int} {x5 : Int} {x6 : Int} {wx7 : Option yV} (k : XW kX12_fuse d (some .int) (wQi Q) 325 [some (.inr (.inr 92)), some (.inl x1), some (.inl x2), some (.inl x3), some (.inl x4), some (.inl x5), some (.inl (x6 + 1)), wx7] [] M) : XW kX12_fuse d (some .int) (wQi Q) 386 [some (.inr (.inr 92)), some (.inl x1), some (.inl x2), some (.inl x3), some (.inl x4), some (.inl x5), some (.inl x6), wx7] [] M := by
  refine x_iinc 1 rfl (by decide) rfl rfl ?_
  exact x_goto rfl k
theorem uX12_fuse_392 {d : Nat} {Q : Int → yM → Prop} {M : yM} {x1 : Int} {x2 : Int} {x3 : Int} {x4 : Int} {x5 : Int} {x6 : Int} {wx7 : Option yV} (k : XW kX12_fuse d (some .int) (wQi Q) 313 [some (.inr (.inr 92)), some (.inl x1), some (.inl x2), some (.inl x3), some (.inl x4), some (.inl (x5 + 1)), some (.inl x6), wx7] [] M) : XW kX12_fuse d (some .int) (wQi Q) 392 [some (.inr (.inr 92)), some (.inl x1), some (.inl x2), some (.inl x3), some (.inl x4), some (.inl x5), some (.inl x6), wx7] [] M := by
  refine x_iinc 1 rfl (by decide) rfl rfl ?_
  exact x_goto rfl k
theorem uX12_fuse_398 {d : Nat} {Q : Int → yM → Prop} {M : yM} {x1 : Int} {x2 : Int} {x3 : Int} {x4 : Int} {x5 : Int} {wx6 : Option yV} {wx7 : Option yV} (k : XW kX12_fuse d (some .int) (wQi Q) 277 [some (.inr (.inr 92)), some (.inl x1), some (.inl x2), some (.inl x3), some (.inl (x4 + 1)), some (.inl x5), wx6, wx7] [] M) : XW kX12_fuse d (some .int) (wQi Q) 398 [some (.inr (.inr 92)), some (.inl x1), some (.inl x2), some (.inl x3), some (.inl x4), some (.inl x5), wx6, wx7] [] M := by
  refine x_iinc 1 rfl (by decide) rfl rfl ?_
  exact x_goto rfl k
theorem uX12_fuse_404 {d : Nat} {Q : Int → yM → Prop} {M : yM} {x1 : Int} {x2 : Int} {x3 : Int} {x4 : Int} {wx5 : Option yV} {wx6 : Option yV} {wx7 : Option yV} (k : XCi d 139 [.inr (.inr 92), .inl x3] M (fun v M' => XW kX12_fuse (d + 1) (some .int) (wQi Q) 409 [some (.inr (.inr 92)), some (.inl x1), some (.inl x2), some (.inl x3), some (.inl x4), wx5, wx6, wx7] [.inl v] M')) : XW kX12_fuse (d + 1) (some .int) (wQi Q) 404 [some (.inr (.inr 92)), some (.inl x1), some (.inl x2), some (.inl x3), some (.inl x4), wx5, wx6, wx7] [] M := by
  refine x_aload_n rfl rfl ?_
  refine x_iload_n rfl rfl ?_
  exact x_calli (args := [.inr (.inr 92), .inl x3]) rfl rfl rfl k
theorem uX12_fuse_409 {d : Nat} {Q : Int → yM → Prop} {M : yM} {x1 : Int} {x2 : Int} {x3 : Int} {x4 : Int} {wx5 : Option yV} {wx6 : Option yV} {wx7 : Option yV} {s0 : Int} (k : Q s0 M) : XW kX12_fuse d (some .int) (wQi Q) 409 [some (.inr (.inr 92)), some (.inl x1), some (.inl x2), some (.inl x3), some (.inl x4), wx5, wx6, wx7] [.inl s0] M := by
  exact x_ireturn rfl k
theorem eX12_keep {d : Nat} {Q : Int → yM → Prop} {M : yM}   (h : XW kX12_keep d (some .int) (wQi Q) 0 [some (.inr (.inr 92)), none] [] M) : XCi d 141 [.inr (.inr 92)] M Q :=
  XC.ofW (Mm := (yX12_keep, cX12_keep, 2, (some .int), 13, kX12_keep)) rfl (rcv_ok sh92) rfl rfl h
theorem uX12_keep_0 {d : Nat} {Q : Int → yM → Prop} {M : yM}  (k : ∀ M', M' = (put M 92 0 0) → XW kX12_keep d (some .int) (wQi Q) 5 [some (.inr (.inr 92)), none] [] M') : XW kX12_keep d (some .int) (wQi Q) 0 [some (.inr (.inr 92)), none] [] M := by
  refine x_aload_n rfl rfl ?_
  refine x_iconst 0 rfl (by decide) ?_
  refine x_putI rfl rfl sh92 rfl ?_
  exact k _ rfl
theorem uX12_keep_5 {d : Nat} {Q : Int → yM → Prop} {M : yM}  (k : ∀ M', M' = (put M 92 5 (ld M 92 2)) → XW kX12_keep d (some .int) (wQi Q) 13 [some (.inr (.inr 92)), none] [] M') : XW kX12_keep d (some .int) (wQi Q) 5 [some (.inr (.inr 92)), none] [] M := by
  refine x_aload_n rfl rfl ?_
  refine x_aload_n rfl rfl ?_
  refine x_getI rfl sh92 rfl ?_
  refine x_putI rfl rfl sh92 rfl ?_
  exact k _ rfl
theorem uX12_keep_13 {d : Nat} {Q : Int → yM → Prop} {M : yM}  (k : XW kX12_keep d (some .int) (wQi Q) 15 [some (.inr (.inr 92)), some (.inl 0)] [] M) : XW kX12_keep d (some .int) (wQi Q) 13 [some (.inr (.inr 92)), none] [] M := by
  refine x_iconst 0 rfl (by decide) ?_
  refine x_istore_n rfl (Nat.le_of_ble_eq_true rfl) rfl ?_
  exact k
theorem uX12_keep_15 {d : Nat} {Q : Int → yM → Prop} {M : yM} {x1 : Int} (h1 : -2147483648 ≤ x1 ∧ x1 < 2147483648) (kt : x1 ≥ 8 → XW kX12_keep d (some .int) (wQi Q) 39 [some (.inr (.inr 92)), some (.inl x1)] [] M) (kf : x1 < 8 → XW kX12_keep d (some .int) (wQi Q) 21 [some (.inr (.inr 92)), some (.inl x1)] [] M) : XW kX12_keep d (some .int) (wQi Q) 15 [some (.inr (.inr 92)), some (.inl x1)] [] M := by
  refine x_iload_n rfl rfl ?_
  refine x_bipush 8 rfl (by decide) ?_
  exact x_icmpge rfl h1 (by decide) kt kf
theorem uX12_keep_21 {d : Nat} {Q : Int → yM → Prop} {M : yM} {x1 : Int} (h1 : 0 ≤ x1 ∧ x1 < 8) (h2 : 0 ≤ x1 ∧ x1 < 8) (k : ∀ M', M' = (put M 95 x1 (ld M 93 x1)) → XW kX12_keep d (some .int) (wQi Q) 33 [some (.inr (.inr 92)), some (.inl x1)] [] M') : XW kX12_keep d (some .int) (wQi Q) 21 [some (.inr (.inr 92)), some (.inl x1)] [] M := by
  refine x_aload_n rfl rfl ?_
  refine x_getR rfl sh92 rfl ?_
  refine x_iload_n rfl rfl ?_
  refine x_aload_n rfl rfl ?_
  refine x_getR rfl sh92 rfl ?_
  refine x_iload_n rfl rfl ?_
  refine x_iaload rfl ⟨sh93, Nat.le_of_ble_eq_true rfl⟩ h1 ?_
  refine x_iastore rfl ⟨sh95, Nat.le_of_ble_eq_true rfl⟩ h2  ?_
  exact k _ rfl
theorem uX12_keep_33 {d : Nat} {Q : Int → yM → Prop} {M : yM} {x1 : Int} (k : XW kX12_keep d (some .int) (wQi Q) 15 [some (.inr (.inr 92)), some (.inl (x1 + 1))] [] M) : XW kX12_keep d (some .int) (wQi Q) 33 [some (.inr (.inr 92)), some (.inl x1)] [] M := by
  refine x_iinc 1 rfl (by decide) rfl rfl ?_
  exact x_goto rfl k
theorem uX12_keep_39 {d : Nat} {Q : Int → yM → Prop} {M : yM} {x1 : Int} (k : XW kX12_keep d (some .int) (wQi Q) 41 [some (.inr (.inr 92)), some (.inl 0)] [] M) : XW kX12_keep d (some .int) (wQi Q) 39 [some (.inr (.inr 92)), some (.inl x1)] [] M := by
  refine x_iconst 0 rfl (by decide) ?_
  refine x_istore_n rfl (Nat.le_of_ble_eq_true rfl) rfl ?_
  exact k
theorem uX12_keep_41 {d : Nat} {Q : Int → yM → Prop} {M : yM} {x1 : Int} (h1 : -2147483648 ≤ x1 ∧ x1 < 2147483648) (kt : x1 ≥ 64 → XW kX12_keep d (some .int) (wQi Q) 65 [some (.inr (.inr 92)), some (.inl x1)] [] M) (kf : x1 < 64 → XW kX12_keep d (some .int) (wQi Q) 47 [some (.inr (.inr 92)), some (.inl x1)] [] M) : XW kX12_keep d (some .int) (wQi Q) 41 [some (.inr (.inr 92)), some (.inl x1)] [] M := by
  refine x_iload_n rfl rfl ?_
  refine x_bipush 64 rfl (by decide) ?_
  exact x_icmpge rfl h1 (by decide) kt kf
theorem uX12_keep_47 {d : Nat} {Q : Int → yM → Prop} {M : yM} {x1 : Int} (h1 : 0 ≤ x1 ∧ x1 < 64) (h2 : 0 ≤ x1 ∧ x1 < 64) (k : ∀ M', M' = (put M 96 x1 (ld M 94 x1)) → XW kX12_keep d (some .int) (wQi Q) 59 [some (.inr (.inr 92)), some (.inl x1)] [] M') : XW kX12_keep d (some .int) (wQi Q) 47 [some (.inr (.inr 92)), some (.inl x1)] [] M := by
  refine x_aload_n rfl rfl ?_
  refine x_getR rfl sh92 rfl ?_
  refine x_iload_n rfl rfl ?_
  refine x_aload_n rfl rfl ?_
  refine x_getR rfl sh92 rfl ?_
  refine x_iload_n rfl rfl ?_
  refine x_iaload rfl ⟨sh94, Nat.le_of_ble_eq_true rfl⟩ h1 ?_
  refine x_iastore rfl ⟨sh96, Nat.le_of_ble_eq_true rfl⟩ h2  ?_
  exact k _ rfl
theorem uX12_keep_59 {d : Nat} {Q : Int → yM → Prop} {M : yM} {x1 : Int} (k : XW kX12_keep d (some .int) (wQi Q) 41 [some (.inr (.inr 92)), some (.inl (x1 + 1))] [] M) : XW kX12_keep d (some .int) (wQi Q) 59 [some (.inr (.inr 92)), some (.inl x1)] [] M := by
  refine x_iinc 1 rfl (by decide) rfl rfl ?_
  exact x_goto rfl k
theorem uX12_keep_65 {d : Nat} {Q : Int → yM → Prop} {M : yM} {x1 : Int} (k : Q (ld M 92 2) M) : XW kX12_keep d (some .int) (wQi Q) 65 [some (.inr (.inr 92)), some (.inl x1)] [] M := by
  refine x_aload_n rfl rfl ?_
  refine x_getI rfl sh92 rfl ?_
  exact x_ireturn rfl k
theorem eX12_shelf {d : Nat} {Q : Int → yM → Prop} {M : yM} {x1 : Int}  (h : XW kX12_shelf d (some .int) (wQi Q) 0 [some (.inr (.inr 92)), some (.inl x1), none, none, none, none, none, none, none] [] M) : XCi d 142 [.inr (.inr 92), .inl x1] M Q :=
  XC.ofW (Mm := (yX12_shelf, cX12_shelf, 9, (some .int), 13, kX12_shelf)) rfl (rcv_ok sh92) rfl rfl h
theorem uX12_shelf_0 {d : Nat} {Q : Int → yM → Prop} {M : yM} {x1 : Int} (k : ∀ M', M' = (put M 92 0 0) → XW kX12_shelf d (some .int) (wQi Q) 5 [some (.inr (.inr 92)), some (.inl x1), none, none, none, none, none, none, none] [] M') : XW kX12_shelf d (some .int) (wQi Q) 0 [some (.inr (.inr 92)), some (.inl x1), none, none, none, none, none, none, none] [] M := by
  refine x_aload_n rfl rfl ?_
  refine x_iconst 0 rfl (by decide) ?_
  refine x_putI rfl rfl sh92 rfl ?_
  exact k _ rfl
theorem uX12_shelf_5 {d : Nat} {Q : Int → yM → Prop} {M : yM} {x1 : Int} (k : XCi d 120 [.inl x1, .inl 0, .inl 1] M (fun v M' => XW kX12_shelf (d + 1) (some .int) (wQi Q) 11 [some (.inr (.inr 92)), some (.inl x1), none, none, none, none, none, none, none] [.inl v] M')) : XW kX12_shelf (d + 1) (some .int) (wQi Q) 5 [some (.inr (.inr 92)), some (.inl x1), none, none, none, none, none, none, none] [] M := by
  refine x_iload_n rfl rfl ?_
  refine x_iconst 0 rfl (by decide) ?_
  refine x_iconst 1 rfl (by decide) ?_
  exact x_calli (args := [.inl x1, .inl 0, .inl 1]) rfl rfl rfl k
theorem uX12_shelf_11 {d : Nat} {Q : Int → yM → Prop} {M : yM} {x1 : Int} {s0 : Int} (h1 : -2147483648 ≤ s0 ∧ s0 < 2147483648) (kt : s0 ≠ 0 → XW kX12_shelf d (some .int) (wQi Q) 16 [some (.inr (.inr 92)), some (.inl x1), none, none, none, none, none, none, none] [] M) (kf : s0 = 0 → XW kX12_shelf d (some .int) (wQi Q) 14 [some (.inr (.inr 92)), some (.inl x1), none, none, none, none, none, none, none] [] M) : XW kX12_shelf d (some .int) (wQi Q) 11 [some (.inr (.inr 92)), some (.inl x1), none, none, none, none, none, none, none] [.inl s0] M := by
  exact x_ifne rfl h1 kt kf
theorem uX12_shelf_14 {d : Nat} {Q : Int → yM → Prop} {M : yM} {x1 : Int} (k : Q (-1) M) : XW kX12_shelf d (some .int) (wQi Q) 14 [some (.inr (.inr 92)), some (.inl x1), none, none, none, none, none, none, none] [] M := by
  refine x_iconst (-1) rfl (by decide) ?_
  exact x_ireturn rfl k
theorem uX12_shelf_16 {d : Nat} {Q : Int → yM → Prop} {M : yM} {x1 : Int} (kt : (ld M 92 5) ≠ 0 → XW kX12_shelf d (some .int) (wQi Q) 26 [some (.inr (.inr 92)), some (.inl x1), none, none, none, none, none, none, none] [] M) (kf : (ld M 92 5) = 0 → XW kX12_shelf d (some .int) (wQi Q) 23 [some (.inr (.inr 92)), some (.inl x1), none, none, none, none, none, none, none] [] M) : XW kX12_shelf d (some .int) (wQi Q) 16 [some (.inr (.inr 92)), some (.inl x1), none, none, none, none, none, none, none] [] M := by
  refine x_aload_n rfl rfl ?_
  refine x_getI rfl sh92 rfl ?_
  exact x_ifne rfl (rng_ld _ _ _) kt kf
theorem uX12_shelf_23 {d : Nat} {Q : Int → yM → Prop} {M : yM} {x1 : Int} (k : Q (-2) M) : XW kX12_shelf d (some .int) (wQi Q) 23 [some (.inr (.inr 92)), some (.inl x1), none, none, none, none, none, none, none] [] M := by
  refine x_bipush (-2) rfl (by decide) ?_
  exact x_ireturn rfl k
theorem uX12_shelf_26 {d : Nat} {Q : Int → yM → Prop} {M : yM} {x1 : Int} (h1 : -2147483648 ≤ x1 ∧ x1 < 2147483648) (kt : x1 ≠ 0 → XW kX12_shelf d (some .int) (wQi Q) 34 [some (.inr (.inr 92)), some (.inl x1), none, none, none, none, none, none, none] [] M) (kf : x1 = 0 → XW kX12_shelf d (some .int) (wQi Q) 30 [some (.inr (.inr 92)), some (.inl x1), none, none, none, none, none, none, none] [] M) : XW kX12_shelf d (some .int) (wQi Q) 26 [some (.inr (.inr 92)), some (.inl x1), none, none, none, none, none, none, none] [] M := by
  refine x_iload_n rfl rfl ?_
  exact x_ifne rfl h1 kt kf
theorem uX12_shelf_30 {d : Nat} {Q : Int → yM → Prop} {M : yM} {x1 : Int} (k : XW kX12_shelf d (some .int) (wQi Q) 38 [some (.inr (.inr 92)), some (.inl x1), none, none, none, none, none, none, none] [.inl 1] M) : XW kX12_shelf d (some .int) (wQi Q) 30 [some (.inr (.inr 92)), some (.inl x1), none, none, none, none, none, none, none] [] M := by
  refine x_iconst 1 rfl (by decide) ?_
  exact x_goto rfl k
theorem uX12_shelf_34 {d : Nat} {Q : Int → yM → Prop} {M : yM} {x1 : Int} (k : XW kX12_shelf d (some .int) (wQi Q) 38 [some (.inr (.inr 92)), some (.inl x1), none, none, none, none, none, none, none] [.inl (ld M 92 2)] M) : XW kX12_shelf d (some .int) (wQi Q) 34 [some (.inr (.inr 92)), some (.inl x1), none, none, none, none, none, none, none] [] M := by
  refine x_aload_n rfl rfl ?_
  refine x_getI rfl sh92 rfl ?_
  exact k
theorem uX12_shelf_38 {d : Nat} {Q : Int → yM → Prop} {M : yM} {x1 : Int} {s0 : Int} (h1 : -2147483648 ≤ (s0 * (ld M 92 5)) ∧ (s0 * (ld M 92 5)) < 2147483648) (kt : (s0 * (ld M 92 5)) ≤ 8 → XW kX12_shelf d (some .int) (wQi Q) 53 [some (.inr (.inr 92)), some (.inl x1), some (.inl s0), none, none, none, none, none, none] [] M) (kf : (s0 * (ld M 92 5)) > 8 → XW kX12_shelf d (some .int) (wQi Q) 50 [some (.inr (.inr 92)), some (.inl x1), some (.inl s0), none, none, none, none, none, none] [] M) : XW kX12_shelf d (some .int) (wQi Q) 38 [some (.inr (.inr 92)), some (.inl x1), none, none, none, none, none, none, none] [.inl s0] M := by
  refine x_istore_n rfl (Nat.le_of_ble_eq_true rfl) rfl ?_
  refine x_iload_n rfl rfl ?_
  refine x_aload_n rfl rfl ?_
  refine x_getI rfl sh92 rfl ?_
  refine x_imul rfl ?_
  refine x_bipush 8 rfl (by decide) ?_
  exact x_icmple rfl h1 (by decide) kt kf
theorem uX12_shelf_50 {d : Nat} {Q : Int → yM → Prop} {M : yM} {x1 : Int} {x2 : Int} (k : Q (-3) M) : XW kX12_shelf d (some .int) (wQi Q) 50 [some (.inr (.inr 92)), some (.inl x1), some (.inl x2), none, none, none, none, none, none] [] M := by
  refine x_bipush (-3) rfl (by decide) ?_
  exact x_ireturn rfl k
theorem uX12_shelf_53 {d : Nat} {Q : Int → yM → Prop} {M : yM} {x1 : Int} {x2 : Int} (k : XW kX12_shelf d (some .int) (wQi Q) 63 [some (.inr (.inr 92)), some (.inl x1), some (.inl x2), some (.inl (x2 * (ld M 92 5))), some (.inl 0), none, none, none, none] [] M) : XW kX12_shelf d (some .int) (wQi Q) 53 [some (.inr (.inr 92)), some (.inl x1), some (.inl x2), none, none, none, none, none, none] [] M := by
  refine x_iload_n rfl rfl ?_
  refine x_aload_n rfl rfl ?_
  refine x_getI rfl sh92 rfl ?_
  refine x_imul rfl ?_
  refine x_istore_n rfl (Nat.le_of_ble_eq_true rfl) rfl ?_
  refine x_iconst 0 rfl (by decide) ?_
  refine x_istore rfl (Nat.le_of_ble_eq_true rfl) rfl ?_
  exact k
theorem uX12_shelf_63 {d : Nat} {Q : Int → yM → Prop} {M : yM} {x1 : Int} {x2 : Int} {x3 : Int} {x4 : Int} {wx5 : Option yV} {wx6 : Option yV} {wx7 : Option yV} {wx8 : Option yV} (h1 : -2147483648 ≤ x4 ∧ x4 < 2147483648) (h2 : -2147483648 ≤ x3 ∧ x3 < 2147483648) (kt : x4 ≥ x3 → XW kX12_shelf d (some .int) (wQi Q) 236 [some (.inr (.inr 92)), some (.inl x1), some (.inl x2), some (.inl x3), some (.inl x4), wx5, wx6, wx7, wx8] [] M) (kf : x4 < x3 → XW kX12_shelf d (some .int) (wQi Q) 69 [some (.inr (.inr 92)), some (.inl x1), some (.inl x2), some (.inl x3), some (.inl x4), wx5, wx6, wx7, wx8] [] M) : XW kX12_shelf d (some .int) (wQi Q) 63 [some (.inr (.inr 92)), some (.inl x1), some (.inl x2), some (.inl x3), some (.inl x4), wx5, wx6, wx7, wx8] [] M := by
  refine x_iload rfl rfl ?_
  refine x_iload_n rfl rfl ?_
  exact x_icmpge rfl h1 h2 kt kf
theorem uX12_shelf_69 {d : Nat} {Q : Int → yM → Prop} {M : yM} {x1 : Int} {x2 : Int} {x3 : Int} {x4 : Int} {wx5 : Option yV} {wx6 : Option yV} {wx7 : Option yV} {wx8 : Option yV} (h1 : -2147483648 ≤ x2 ∧ x2 < 2147483648) (kt : x2 ≠ 1 → XW kX12_shelf d (some .int) (wQi Q) 84 [some (.inr (.inr 92)), some (.inl x1), some (.inl x2), some (.inl x3), some (.inl x4), wx5, wx6, wx7, wx8] [.inl x4, .inr (.inr 97)] M) (kf : x2 = 1 → XW kX12_shelf d (some .int) (wQi Q) 80 [some (.inr (.inr 92)), some (.inl x1), some (.inl x2), some (.inl x3), some (.inl x4), wx5, wx6, wx7, wx8] [.inl x4, .inr (.inr 97)] M) : XW kX12_shelf d (some .int) (wQi Q) 69 [some (.inr (.inr 92)), some (.inl x1), some (.inl x2), some (.inl x3), some (.inl x4), wx5, wx6, wx7, wx8] [] M := by
  refine x_aload_n rfl rfl ?_
  refine x_getR rfl sh92 rfl ?_
  refine x_iload rfl rfl ?_
  refine x_iload_n rfl rfl ?_
  refine x_iconst 1 rfl (by decide) ?_
  exact x_icmpne rfl h1 (by decide) kt kf
theorem uX12_shelf_80 {d : Nat} {Q : Int → yM → Prop} {M : yM} {x1 : Int} {x2 : Int} {x3 : Int} {x4 : Int} {wx5 : Option yV} {wx6 : Option yV} {wx7 : Option yV} {wx8 : Option yV} {s0 : Int} (k : XW kX12_shelf d (some .int) (wQi Q) 93 [some (.inr (.inr 92)), some (.inl x1), some (.inl x2), some (.inl x3), some (.inl x4), wx5, wx6, wx7, wx8] [.inl 0, .inl s0, .inr (.inr 97)] M) : XW kX12_shelf d (some .int) (wQi Q) 80 [some (.inr (.inr 92)), some (.inl x1), some (.inl x2), some (.inl x3), some (.inl x4), wx5, wx6, wx7, wx8] [.inl s0, .inr (.inr 97)] M := by
  refine x_iconst 0 rfl (by decide) ?_
  exact x_goto rfl k
theorem uX12_shelf_84 {d : Nat} {Q : Int → yM → Prop} {M : yM} {x1 : Int} {x2 : Int} {x3 : Int} {x4 : Int} {wx5 : Option yV} {wx6 : Option yV} {wx7 : Option yV} {wx8 : Option yV} {s0 : Int} (h1 : -2147483648 ≤ x2 ∧ x2 < 2147483648) (h2 : x2 ≠ 0) (h3 : 0 ≤ (yrem x4 x2) ∧ (yrem x4 x2) < 8) (k : XW kX12_shelf d (some .int) (wQi Q) 93 [some (.inr (.inr 92)), some (.inl x1), some (.inl x2), some (.inl x3), some (.inl x4), wx5, wx6, wx7, wx8] [.inl (ld M 93 (yrem x4 x2)), .inl s0, .inr (.inr 97)] M) : XW kX12_shelf d (some .int) (wQi Q) 84 [some (.inr (.inr 92)), some (.inl x1), some (.inl x2), some (.inl x3), some (.inl x4), wx5, wx6, wx7, wx8] [.inl s0, .inr (.inr 97)] M := by
  refine x_aload_n rfl rfl ?_
  refine x_getR rfl sh92 rfl ?_
  refine x_iload rfl rfl ?_
  refine x_iload_n rfl rfl ?_
  refine x_irem rfl h1 h2 ?_
  refine x_iaload rfl ⟨sh93, Nat.le_of_ble_eq_true rfl⟩ h3 ?_
  exact k
theorem uX12_shelf_93 {d : Nat} {Q : Int → yM → Prop} {M : yM} {x1 : Int} {x2 : Int} {x3 : Int} {x4 : Int} {wx5 : Option yV} {wx6 : Option yV} {wx7 : Option yV} {wx8 : Option yV} {s0 : Int} {s1 : Int} (h1 : -2147483648 ≤ x2 ∧ x2 < 2147483648) (h2 : x2 ≠ 0) (h3 : 0 ≤ (ydiv x4 x2) ∧ (ydiv x4 x2) < 8) (h4 : 0 ≤ s1 ∧ s1 < 8) (k : ∀ M', M' = (put M 97 s1 (s0 + (x2 * (ld M 95 (ydiv x4 x2))))) → XW kX12_shelf d (some .int) (wQi Q) 106 [some (.inr (.inr 92)), some (.inl x1), some (.inl x2), some (.inl x3), some (.inl x4), wx5, wx6, wx7, wx8] [] M') : XW kX12_shelf d (some .int) (wQi Q) 93 [some (.inr (.inr 92)), some (.inl x1), some (.inl x2), some (.inl x3), some (.inl x4), wx5, wx6, wx7, wx8] [.inl s0, .inl s1, .inr (.inr 97)] M := by
  refine x_iload_n rfl rfl ?_
  refine x_aload_n rfl rfl ?_
  refine x_getR rfl sh92 rfl ?_
  refine x_iload rfl rfl ?_
  refine x_iload_n rfl rfl ?_
  refine x_idiv rfl h1 h2 ?_
  refine x_iaload rfl ⟨sh95, Nat.le_of_ble_eq_true rfl⟩ h3 ?_
  refine x_imul rfl ?_
  refine x_iadd rfl ?_
  refine x_iastore rfl ⟨sh97, Nat.le_of_ble_eq_true rfl⟩ h4  ?_
  exact k _ rfl
theorem uX12_shelf_106 {d : Nat} {Q : Int → yM → Prop} {M : yM} {x1 : Int} {x2 : Int} {x3 : Int} {x4 : Int} {wx5 : Option yV} {wx6 : Option yV} {wx7 : Option yV} {wx8 : Option yV} (k : XW kX12_shelf d (some .int) (wQi Q) 109 [some (.inr (.inr 92)), some (.inl x1), some (.inl x2), some (.inl x3), some (.inl x4), some (.inl 0), wx6, wx7, wx8] [] M) : XW kX12_shelf d (some .int) (wQi Q) 106 [some (.inr (.inr 92)), some (.inl x1), some (.inl x2), some (.inl x3), some (.inl x4), wx5, wx6, wx7, wx8] [] M := by
  refine x_iconst 0 rfl (by decide) ?_
  refine x_istore rfl (Nat.le_of_ble_eq_true rfl) rfl ?_
  exact k
theorem uX12_shelf_109 {d : Nat} {Q : Int → yM → Prop} {M : yM} {x1 : Int} {x2 : Int} {x3 : Int} {x4 : Int} {x5 : Int} {wx6 : Option yV} {wx7 : Option yV} {wx8 : Option yV} (h1 : -2147483648 ≤ x5 ∧ x5 < 2147483648) (h2 : -2147483648 ≤ x3 ∧ x3 < 2147483648) (kt : x5 ≥ x3 → XW kX12_shelf d (some .int) (wQi Q) 230 [some (.inr (.inr 92)), some (.inl x1), some (.inl x2), some (.inl x3), some (.inl x4), some (.inl x5), wx6, wx7, wx8] [] M) (kf : x5 < x3 → XW kX12_shelf d (some .int) (wQi Q) 115 [some (.inr (.inr 92)), some (.inl x1), some (.inl x2), some (.inl x3), some (.inl x4), some (.inl x5), wx6, wx7, wx8] [] M) : XW kX12_shelf d (some .int) (wQi Q) 109 [some (.inr (.inr 92)), some (.inl x1), some (.inl x2), some (.inl x3), some (.inl x4), some (.inl x5), wx6, wx7, wx8] [] M := by
  refine x_iload rfl rfl ?_
  refine x_iload_n rfl rfl ?_
  exact x_icmpge rfl h1 h2 kt kf
theorem uX12_shelf_115 {d : Nat} {Q : Int → yM → Prop} {M : yM} {x1 : Int} {x2 : Int} {x3 : Int} {x4 : Int} {x5 : Int} {wx6 : Option yV} {wx7 : Option yV} {wx8 : Option yV} (k : XW kX12_shelf d (some .int) (wQi Q) 121 [some (.inr (.inr 92)), some (.inl x1), some (.inl x2), some (.inl x3), some (.inl x4), some (.inl x5), some (.inl 0), some (.inl 0), wx8] [] M) : XW kX12_shelf d (some .int) (wQi Q) 115 [some (.inr (.inr 92)), some (.inl x1), some (.inl x2), some (.inl x3), some (.inl x4), some (.inl x5), wx6, wx7, wx8] [] M := by
  refine x_iconst 0 rfl (by decide) ?_
  refine x_istore rfl (Nat.le_of_ble_eq_true rfl) rfl ?_
  refine x_iconst 0 rfl (by decide) ?_
  refine x_istore rfl (Nat.le_of_ble_eq_true rfl) rfl ?_
  exact k
theorem uX12_shelf_121 {d : Nat} {Q : Int → yM → Prop} {M : yM} {x1 : Int} {x2 : Int} {x3 : Int} {x4 : Int} {x5 : Int} {x6 : Int} {x7 : Int} {wx8 : Option yV} (h1 : -2147483648 ≤ x7 ∧ x7 < 2147483648) (h2 : -2147483648 ≤ x3 ∧ x3 < 2147483648) (kt : x7 ≥ x3 → XW kX12_shelf d (some .int) (wQi Q) 209 [some (.inr (.inr 92)), some (.inl x1), some (.inl x2), some (.inl x3), some (.inl x4), some (.inl x5), some (.inl x6), some (.inl x7), wx8] [] M) (kf : x7 < x3 → XW kX12_shelf d (some .int) (wQi Q) 127 [some (.inr (.inr 92)), some (.inl x1), some (.inl x2), some (.inl x3), some (.inl x4), some (.inl x5), some (.inl x6), some (.inl x7), wx8] [] M) : XW kX12_shelf d (some .int) (wQi Q) 121 [some (.inr (.inr 92)), some (.inl x1), some (.inl x2), some (.inl x3), some (.inl x4), some (.inl x5), some (.inl x6), some (.inl x7), wx8] [] M := by
  refine x_iload rfl rfl ?_
  refine x_iload_n rfl rfl ?_
  exact x_icmpge rfl h1 h2 kt kf
theorem uX12_shelf_127 {d : Nat} {Q : Int → yM → Prop} {M : yM} {x1 : Int} {x2 : Int} {x3 : Int} {x4 : Int} {x5 : Int} {x6 : Int} {x7 : Int} {wx8 : Option yV} (h1 : -2147483648 ≤ x1 ∧ x1 < 2147483648) (kt : x1 = 0 → XW kX12_shelf d (some .int) (wQi Q) 150 [some (.inr (.inr 92)), some (.inl x1), some (.inl x2), some (.inl x3), some (.inl x4), some (.inl x5), some (.inl x6), some (.inl x7), wx8] [] M) (kf : x1 ≠ 0 → XW kX12_shelf d (some .int) (wQi Q) 131 [some (.inr (.inr 92)), some (.inl x1), some (.inl x2), some (.inl x3), some (.inl x4), some (.inl x5), some (.inl x6), some (.inl x7), wx8] [] M) : XW kX12_shelf d (some .int) (wQi Q) 127 [some (.inr (.inr 92)), some (.inl x1), some (.inl x2), some (.inl x3), some (.inl x4), some (.inl x5), some (.inl x6), some (.inl x7), wx8] [] M := by
  refine x_iload_n rfl rfl ?_
  exact x_ifeq rfl h1 kt kf
theorem uX12_shelf_131 {d : Nat} {Q : Int → yM → Prop} {M : yM} {x1 : Int} {x2 : Int} {x3 : Int} {x4 : Int} {x5 : Int} {x6 : Int} {x7 : Int} {wx8 : Option yV} (h1 : -2147483648 ≤ x2 ∧ x2 < 2147483648) (h2 : x2 ≠ 0) (h3 : -2147483648 ≤ x2 ∧ x2 < 2147483648) (h4 : x2 ≠ 0) (h5 : -2147483648 ≤ x2 ∧ x2 < 2147483648) (h6 : x2 ≠ 0) (k : XCi d 125 [.inr (.inr 92), .inl (yrem x4 x2), .inl (yrem x5 x2), .inl (yrem x7 x2)] M (fun v M' => XW kX12_shelf (d + 1) (some .int) (wQi Q) 147 [some (.inr (.inr 92)), some (.inl x1), some (.inl x2), some (.inl x3), some (.inl x4), some (.inl x5), some (.inl x6), some (.inl x7), wx8] [.inl v] M')) : XW kX12_shelf (d + 1) (some .int) (wQi Q) 131 [some (.inr (.inr 92)), some (.inl x1), some (.inl x2), some (.inl x3), some (.inl x4), some (.inl x5), some (.inl x6), some (.inl x7), wx8] [] M := by
  refine x_aload_n rfl rfl ?_
  refine x_iload rfl rfl ?_
  refine x_iload_n rfl rfl ?_
  refine x_irem rfl h1 h2 ?_
  refine x_iload rfl rfl ?_
  refine x_iload_n rfl rfl ?_
  refine x_irem rfl h3 h4 ?_
  refine x_iload rfl rfl ?_
  refine x_iload_n rfl rfl ?_
  refine x_irem rfl h5 h6 ?_
  exact x_calli (args := [.inr (.inr 92), .inl (yrem x4 x2), .inl (yrem x5 x2), .inl (yrem x7 x2)]) rfl rfl rfl k
theorem uX12_shelf_147 {d : Nat} {Q : Int → yM → Prop} {M : yM} {x1 : Int} {x2 : Int} {x3 : Int} {x4 : Int} {x5 : Int} {x6 : Int} {x7 : Int} {wx8 : Option yV} {s0 : Int} (h1 : -2147483648 ≤ s0 ∧ s0 < 2147483648) (kt : s0 = 0 → XW kX12_shelf d (some .int) (wQi Q) 182 [some (.inr (.inr 92)), some (.inl x1), some (.inl x2), some (.inl x3), some (.inl x4), some (.inl x5), some (.inl x6), some (.inl x7), wx8] [] M) (kf : s0 ≠ 0 → XW kX12_shelf d (some .int) (wQi Q) 150 [some (.inr (.inr 92)), some (.inl x1), some (.inl x2), some (.inl x3), some (.inl x4), some (.inl x5), some (.inl x6), some (.inl x7), wx8] [] M) : XW kX12_shelf d (some .int) (wQi Q) 147 [some (.inr (.inr 92)), some (.inl x1), some (.inl x2), some (.inl x3), some (.inl x4), some (.inl x5), some (.inl x6), some (.inl x7), wx8] [.inl s0] M := by
  exact x_ifeq rfl h1 kt kf
theorem uX12_shelf_150 {d : Nat} {Q : Int → yM → Prop} {M : yM} {x1 : Int} {x2 : Int} {x3 : Int} {x4 : Int} {x5 : Int} {x6 : Int} {x7 : Int} {wx8 : Option yV} (h1 : -2147483648 ≤ x2 ∧ x2 < 2147483648) (h2 : x2 ≠ 0) (h3 : -2147483648 ≤ x2 ∧ x2 < 2147483648) (h4 : x2 ≠ 0) (h5 : 0 ≤ ((8 * (ydiv x4 x2)) + (ydiv x5 x2)) ∧ ((8 * (ydiv x4 x2)) + (ydiv x5 x2)) < 64) (h6 : -2147483648 ≤ x2 ∧ x2 < 2147483648) (h7 : x2 ≠ 0) (kt : (yand (yshr (ld M 96 ((8 * (ydiv x4 x2)) + (ydiv x5 x2))) (ydiv x7 x2)) 1) ≠ 1 → XW kX12_shelf d (some .int) (wQi Q) 182 [some (.inr (.inr 92)), some (.inl x1), some (.inl x2), some (.inl x3), some (.inl x4), some (.inl x5), some (.inl x6), some (.inl x7), wx8] [] M) (kf : (yand (yshr (ld M 96 ((8 * (ydiv x4 x2)) + (ydiv x5 x2))) (ydiv x7 x2)) 1) = 1 → XW kX12_shelf d (some .int) (wQi Q) 178 [some (.inr (.inr 92)), some (.inl x1), some (.inl x2), some (.inl x3), some (.inl x4), some (.inl x5), some (.inl x6), some (.inl x7), wx8] [] M) : XW kX12_shelf d (some .int) (wQi Q) 150 [some (.inr (.inr 92)), some (.inl x1), some (.inl x2), some (.inl x3), some (.inl x4), some (.inl x5), some (.inl x6), some (.inl x7), wx8] [] M := by
  refine x_aload_n rfl rfl ?_
  refine x_getR rfl sh92 rfl ?_
  refine x_bipush 8 rfl (by decide) ?_
  refine x_iload rfl rfl ?_
  refine x_iload_n rfl rfl ?_
  refine x_idiv rfl h1 h2 ?_
  refine x_imul rfl ?_
  refine x_iload rfl rfl ?_
  refine x_iload_n rfl rfl ?_
  refine x_idiv rfl h3 h4 ?_
  refine x_iadd rfl ?_
  refine x_iaload rfl ⟨sh96, Nat.le_of_ble_eq_true rfl⟩ h5 ?_
  refine x_iload rfl rfl ?_
  refine x_iload_n rfl rfl ?_
  refine x_idiv rfl h6 h7 ?_
  refine x_ishr rfl ?_
  refine x_iconst 1 rfl (by decide) ?_
  refine x_iand rfl ?_
  refine x_iconst 1 rfl (by decide) ?_
  exact x_icmpne rfl (rng_yand _ _) (by decide) kt kf
theorem uX12_shelf_178 {d : Nat} {Q : Int → yM → Prop} {M : yM} {x1 : Int} {x2 : Int} {x3 : Int} {x4 : Int} {x5 : Int} {x6 : Int} {x7 : Int} {wx8 : Option yV} (k : XW kX12_shelf d (some .int) (wQi Q) 183 [some (.inr (.inr 92)), some (.inl x1), some (.inl x2), some (.inl x3), some (.inl x4), some (.inl x5), some (.inl x6), some (.inl x7), wx8] [.inl 1] M) : XW kX12_shelf d (some .int) (wQi Q) 178 [some (.inr (.inr 92)), some (.inl x1), some (.inl x2), some (.inl x3), some (.inl x4), some (.inl x5), some (.inl x6), some (.inl x7), wx8] [] M := by
  refine x_iconst 1 rfl (by decide) ?_
  exact x_goto rfl k
theorem uX12_shelf_182 {d : Nat} {Q : Int → yM → Prop} {M : yM} {x1 : Int} {x2 : Int} {x3 : Int} {x4 : Int} {x5 : Int} {x6 : Int} {x7 : Int} {wx8 : Option yV} (k : XW kX12_shelf d (some .int) (wQi Q) 183 [some (.inr (.inr 92)), some (.inl x1), some (.inl x2), some (.inl x3), some (.inl x4), some (.inl x5), some (.inl x6), some (.inl x7), wx8] [.inl 0] M) : XW kX12_shelf d (some .int) (wQi Q) 182 [some (.inr (.inr 92)), some (.inl x1), some (.inl x2), some (.inl x3), some (.inl x4), some (.inl x5), some (.inl x6), some (.inl x7), wx8] [] M := by
  refine x_iconst 0 rfl (by decide) ?_
  exact k
theorem uX12_shelf_183 {d : Nat} {Q : Int → yM → Prop} {M : yM} {x1 : Int} {x2 : Int} {x3 : Int} {x4 : Int} {x5 : Int} {x6 : Int} {x7 : Int} {wx8 : Option yV} {s0 : Int} (h1 : -2147483648 ≤ s0 ∧ s0 < 2147483648) (kt : s0 = 0 → XW kX12_shelf d (some .int) (wQi Q) 199 [some (.inr (.inr 92)), some (.inl x1), some (.inl x2), some (.inl x3), some (.inl x4), some (.inl x5), some (.inl x6), some (.inl x7), some (.inl s0)] [.inl x6] M) (kf : s0 ≠ 0 → XW kX12_shelf d (some .int) (wQi Q) 192 [some (.inr (.inr 92)), some (.inl x1), some (.inl x2), some (.inl x3), some (.inl x4), some (.inl x5), some (.inl x6), some (.inl x7), some (.inl s0)] [.inl x6] M) : XW kX12_shelf d (some .int) (wQi Q) 183 [some (.inr (.inr 92)), some (.inl x1), some (.inl x2), some (.inl x3), some (.inl x4), some (.inl x5), some (.inl x6), some (.inl x7), wx8] [.inl s0] M := by
  refine x_istore rfl (Nat.le_of_ble_eq_true rfl) rfl ?_
  refine x_iload rfl rfl ?_
  refine x_iload rfl rfl ?_
  exact x_ifeq rfl h1 kt kf
theorem uX12_shelf_192 {d : Nat} {Q : Int → yM → Prop} {M : yM} {x1 : Int} {x2 : Int} {x3 : Int} {x4 : Int} {x5 : Int} {x6 : Int} {x7 : Int} {x8 : Int} {s0 : Int} (k : XW kX12_shelf d (some .int) (wQi Q) 200 [some (.inr (.inr 92)), some (.inl x1), some (.inl x2), some (.inl x3), some (.inl x4), some (.inl x5), some (.inl x6), some (.inl x7), some (.inl x8)] [.inl (yshl 1 x7), .inl s0] M) : XW kX12_shelf d (some .int) (wQi Q) 192 [some (.inr (.inr 92)), some (.inl x1), some (.inl x2), some (.inl x3), some (.inl x4), some (.inl x5), some (.inl x6), some (.inl x7), some (.inl x8)] [.inl s0] M := by
  refine x_iconst 1 rfl (by decide) ?_
  refine x_iload rfl rfl ?_
  refine x_ishl rfl ?_
  exact x_goto rfl k
theorem uX12_shelf_199 {d : Nat} {Q : Int → yM → Prop} {M : yM} {x1 : Int} {x2 : Int} {x3 : Int} {x4 : Int} {x5 : Int} {x6 : Int} {x7 : Int} {x8 : Int} {s0 : Int} (k : XW kX12_shelf d (some .int) (wQi Q) 200 [some (.inr (.inr 92)), some (.inl x1), some (.inl x2), some (.inl x3), some (.inl x4), some (.inl x5), some (.inl x6), some (.inl x7), some (.inl x8)] [.inl 0, .inl s0] M) : XW kX12_shelf d (some .int) (wQi Q) 199 [some (.inr (.inr 92)), some (.inl x1), some (.inl x2), some (.inl x3), some (.inl x4), some (.inl x5), some (.inl x6), some (.inl x7), some (.inl x8)] [.inl s0] M := by
  refine x_iconst 0 rfl (by decide) ?_
  exact k
theorem uX12_shelf_200 {d : Nat} {Q : Int → yM → Prop} {M : yM} {x1 : Int} {x2 : Int} {x3 : Int} {x4 : Int} {x5 : Int} {x6 : Int} {x7 : Int} {x8 : Int} {s0 : Int} {s1 : Int} (k : XW kX12_shelf d (some .int) (wQi Q) 121 [some (.inr (.inr 92)), some (.inl x1), some (.inl x2), some (.inl x3), some (.inl x4), some (.inl x5), some (.inl (yor s1 s0)), some (.inl (x7 + 1)), some (.inl x8)] [] M) : XW kX12_shelf d (some .int) (wQi Q) 200 [some (.inr (.inr 92)), some (.inl x1), some (.inl x2), some (.inl x3), some (.inl x4), some (.inl x5), some (.inl x6), some (.inl x7), some (.inl x8)] [.inl s0, .inl s1] M := by
  refine x_ior rfl ?_
  refine x_istore rfl (Nat.le_of_ble_eq_true rfl) rfl ?_
  refine x_iinc 1 rfl (by decide) rfl rfl ?_
  exact x_goto rfl k
theorem uX12_shelf_209 {d : Nat} {Q : Int → yM → Prop} {M : yM} {x1 : Int} {x2 : Int} {x3 : Int} {x4 : Int} {x5 : Int} {x6 : Int} {x7 : Int} {wx8 : Option yV} (h1 : 0 ≤ ((8 * x4) + x5) ∧ ((8 * x4) + x5) < 64) (k : ∀ M', M' = (put M 98 ((8 * x4) + x5) x6) → XW kX12_shelf d (some .int) (wQi Q) 224 [some (.inr (.inr 92)), some (.inl x1), some (.inl x2), some (.inl x3), some (.inl x4), some (.inl x5), some (.inl x6), some (.inl x7), wx8] [] M') : XW kX12_shelf d (some .int) (wQi Q) 209 [some (.inr (.inr 92)), some (.inl x1), some (.inl x2), some (.inl x3), some (.inl x4), some (.inl x5), some (.inl x6), some (.inl x7), wx8] [] M := by
  refine x_aload_n rfl rfl ?_
  refine x_getR rfl sh92 rfl ?_
  refine x_bipush 8 rfl (by decide) ?_
  refine x_iload rfl rfl ?_
  refine x_imul rfl ?_
  refine x_iload rfl rfl ?_
  refine x_iadd rfl ?_
  refine x_iload rfl rfl ?_
  refine x_iastore rfl ⟨sh98, Nat.le_of_ble_eq_true rfl⟩ h1  ?_
  exact k _ rfl
theorem uX12_shelf_224 {d : Nat} {Q : Int → yM → Prop} {M : yM} {x1 : Int} {x2 : Int} {x3 : Int} {x4 : Int} {x5 : Int} {x6 : Int} {x7 : Int} {wx8 : Option yV} (k : XW kX12_shelf d (some .int) (wQi Q) 109 [some (.inr (.inr 92)), some (.inl x1), some (.inl x2), some (.inl x3), some (.inl x4), some (.inl (x5 + 1)), some (.inl x6), some (.inl x7), wx8] [] M) : XW kX12_shelf d (some .int) (wQi Q) 224 [some (.inr (.inr 92)), some (.inl x1), some (.inl x2), some (.inl x3), some (.inl x4), some (.inl x5), some (.inl x6), some (.inl x7), wx8] [] M := by
  refine x_iinc 1 rfl (by decide) rfl rfl ?_
  exact x_goto rfl k
theorem uX12_shelf_230 {d : Nat} {Q : Int → yM → Prop} {M : yM} {x1 : Int} {x2 : Int} {x3 : Int} {x4 : Int} {x5 : Int} {wx6 : Option yV} {wx7 : Option yV} {wx8 : Option yV} (k : XW kX12_shelf d (some .int) (wQi Q) 63 [some (.inr (.inr 92)), some (.inl x1), some (.inl x2), some (.inl x3), some (.inl (x4 + 1)), some (.inl x5), wx6, wx7, wx8] [] M) : XW kX12_shelf d (some .int) (wQi Q) 230 [some (.inr (.inr 92)), some (.inl x1), some (.inl x2), some (.inl x3), some (.inl x4), some (.inl x5), wx6, wx7, wx8] [] M := by
  refine x_iinc 1 rfl (by decide) rfl rfl ?_
  exact x_goto rfl k
theorem uX12_shelf_236 {d : Nat} {Q : Int → yM → Prop} {M : yM} {x1 : Int} {x2 : Int} {x3 : Int} {x4 : Int} {wx5 : Option yV} {wx6 : Option yV} {wx7 : Option yV} {wx8 : Option yV} (k : XCi d 139 [.inr (.inr 92), .inl x3] M (fun v M' => XW kX12_shelf (d + 1) (some .int) (wQi Q) 241 [some (.inr (.inr 92)), some (.inl x1), some (.inl x2), some (.inl x3), some (.inl x4), wx5, wx6, wx7, wx8] [.inl v] M')) : XW kX12_shelf (d + 1) (some .int) (wQi Q) 236 [some (.inr (.inr 92)), some (.inl x1), some (.inl x2), some (.inl x3), some (.inl x4), wx5, wx6, wx7, wx8] [] M := by
  refine x_aload_n rfl rfl ?_
  refine x_iload_n rfl rfl ?_
  exact x_calli (args := [.inr (.inr 92), .inl x3]) rfl rfl rfl k
theorem uX12_shelf_241 {d : Nat} {Q : Int → yM → Prop} {M : yM} {x1 : Int} {x2 : Int} {x3 : Int} {x4 : Int} {wx5 : Option yV} {wx6 : Option yV} {wx7 : Option yV} {wx8 : Option yV} {s0 : Int} (k : Q s0 M) : XW kX12_shelf d (some .int) (wQi Q) 241 [some (.inr (.inr 92)), some (.inl x1), some (.inl x2), some (.inl x3), some (.inl x4), wx5, wx6, wx7, wx8] [.inl s0] M := by
  exact x_ireturn rfl k
theorem eX12_points {d : Nat} {Q : Int → yM → Prop} {M : yM} {x1 : Int}  (h : XW kX12_points d (some .int) (wQi Q) 0 [some (.inr (.inr 92)), some (.inl x1), none] [] M) : XCi d 143 [.inr (.inr 92), .inl x1] M Q :=
  XC.ofW (Mm := (yX12_points, cX12_points, 3, (some .int), 13, kX12_points)) rfl (rcv_ok sh92) rfl rfl h
theorem uX12_points_0 {d : Nat} {Q : Int → yM → Prop} {M : yM} {x1 : Int} (k : ∀ M', M' = (put M 92 0 0) → XW kX12_points d (some .int) (wQi Q) 5 [some (.inr (.inr 92)), some (.inl x1), none] [] M') : XW kX12_points d (some .int) (wQi Q) 0 [some (.inr (.inr 92)), some (.inl x1), none] [] M := by
  refine x_aload_n rfl rfl ?_
  refine x_iconst 0 rfl (by decide) ?_
  refine x_putI rfl rfl sh92 rfl ?_
  exact k _ rfl
theorem uX12_points_5 {d : Nat} {Q : Int → yM → Prop} {M : yM} {x1 : Int} (k : XCi d 120 [.inl x1, .inl 1, .inl 8] M (fun v M' => XW kX12_points (d + 1) (some .int) (wQi Q) 12 [some (.inr (.inr 92)), some (.inl x1), none] [.inl v] M')) : XW kX12_points (d + 1) (some .int) (wQi Q) 5 [some (.inr (.inr 92)), some (.inl x1), none] [] M := by
  refine x_iload_n rfl rfl ?_
  refine x_iconst 1 rfl (by decide) ?_
  refine x_bipush 8 rfl (by decide) ?_
  exact x_calli (args := [.inl x1, .inl 1, .inl 8]) rfl rfl rfl k
theorem uX12_points_12 {d : Nat} {Q : Int → yM → Prop} {M : yM} {x1 : Int} {s0 : Int} (h1 : -2147483648 ≤ s0 ∧ s0 < 2147483648) (kt : s0 ≠ 0 → XW kX12_points d (some .int) (wQi Q) 17 [some (.inr (.inr 92)), some (.inl x1), none] [] M) (kf : s0 = 0 → XW kX12_points d (some .int) (wQi Q) 15 [some (.inr (.inr 92)), some (.inl x1), none] [] M) : XW kX12_points d (some .int) (wQi Q) 12 [some (.inr (.inr 92)), some (.inl x1), none] [.inl s0] M := by
  exact x_ifne rfl h1 kt kf
theorem uX12_points_15 {d : Nat} {Q : Int → yM → Prop} {M : yM} {x1 : Int} (k : Q (-1) M) : XW kX12_points d (some .int) (wQi Q) 15 [some (.inr (.inr 92)), some (.inl x1), none] [] M := by
  refine x_iconst (-1) rfl (by decide) ?_
  exact x_ireturn rfl k
theorem uX12_points_17 {d : Nat} {Q : Int → yM → Prop} {M : yM} {x1 : Int} (k : ∀ M', M' = (put M 92 11 x1) → XW kX12_points d (some .int) (wQi Q) 27 [some (.inr (.inr 92)), some (.inl x1), some (.inl (ld M 92 11))] [] M') : XW kX12_points d (some .int) (wQi Q) 17 [some (.inr (.inr 92)), some (.inl x1), none] [] M := by
  refine x_aload_n rfl rfl ?_
  refine x_getI rfl sh92 rfl ?_
  refine x_istore_n rfl (Nat.le_of_ble_eq_true rfl) rfl ?_
  refine x_aload_n rfl rfl ?_
  refine x_iload_n rfl rfl ?_
  refine x_putI rfl rfl sh92 rfl ?_
  exact k _ rfl
theorem uX12_points_27 {d : Nat} {Q : Int → yM → Prop} {M : yM} {x1 : Int} {x2 : Int} (k : XCv d 127 [.inr (.inr 92)] M (fun M' => XW kX12_points (d + 1) (some .int) (wQi Q) 31 [some (.inr (.inr 92)), some (.inl x1), some (.inl x2)] [] M')) : XW kX12_points (d + 1) (some .int) (wQi Q) 27 [some (.inr (.inr 92)), some (.inl x1), some (.inl x2)] [] M := by
  refine x_aload_n rfl rfl ?_
  exact x_callv (args := [.inr (.inr 92)]) rfl rfl rfl k
theorem uX12_points_31 {d : Nat} {Q : Int → yM → Prop} {M : yM} {x1 : Int} {x2 : Int} (k : Q x2 M) : XW kX12_points d (some .int) (wQi Q) 31 [some (.inr (.inr 92)), some (.inl x1), some (.inl x2)] [] M := by
  refine x_iload_n rfl rfl ?_
  exact x_ireturn rfl k
theorem eX12_puts {d : Nat} {Q : yM → Prop} {M : yM} {x1 : Int} {x2 : Int} {x3 : Int} {x4 : Int}  (h : XW kX12_puts d none (wQv Q) 0 [some (.inr (.inr 92)), some (.inl x1), some (.inl x2), some (.inl x3), some (.inl x4)] [] M) : XCv d 144 [.inr (.inr 92), .inl x1, .inl x2, .inl x3, .inl x4] M Q :=
  XC.ofW (Mm := (yX12_puts, cX12_puts, 5, none, 13, kX12_puts)) rfl (rcv_ok sh92) rfl rfl h
theorem uX12_puts_0 {d : Nat} {Q : yM → Prop} {M : yM} {x1 : Int} {x2 : Int} {x3 : Int} {x4 : Int} (h1 : 0 ≤ ((x1 + (8 * x2)) + x3) ∧ ((x1 + (8 * x2)) + x3) < 2048) (k : ∀ M', M' = (put M 100 ((x1 + (8 * x2)) + x3) x4) → XW kX12_puts d none (wQv Q) 15 [some (.inr (.inr 92)), some (.inl x1), some (.inl x2), some (.inl x3), some (.inl x4)] [] M') : XW kX12_puts d none (wQv Q) 0 [some (.inr (.inr 92)), some (.inl x1), some (.inl x2), some (.inl x3), some (.inl x4)] [] M := by
  refine x_aload_n rfl rfl ?_
  refine x_getR rfl sh92 rfl ?_
  refine x_iload_n rfl rfl ?_
  refine x_bipush 8 rfl (by decide) ?_
  refine x_iload_n rfl rfl ?_
  refine x_imul rfl ?_
  refine x_iadd rfl ?_
  refine x_iload_n rfl rfl ?_
  refine x_iadd rfl ?_
  refine x_iload rfl rfl ?_
  refine x_iastore rfl ⟨sh100, Nat.le_of_ble_eq_true rfl⟩ h1  ?_
  exact k _ rfl
theorem uX12_puts_15 {d : Nat} {Q : yM → Prop} {M : yM} {x1 : Int} {x2 : Int} {x3 : Int} {x4 : Int} (k : XCi d 136 [.inr (.inr 92), .inl x4] M (fun v M' => XW kX12_puts (d + 1) none (wQv Q) 33 [some (.inr (.inr 92)), some (.inl x1), some (.inl x2), some (.inl x3), some (.inl x4)] [.inl v, .inl ((x1 + (8 * x3)) + x2), .inr (.inr 100)] M')) : XW kX12_puts (d + 1) none (wQv Q) 15 [some (.inr (.inr 92)), some (.inl x1), some (.inl x2), some (.inl x3), some (.inl x4)] [] M := by
  refine x_aload_n rfl rfl ?_
  refine x_getR rfl sh92 rfl ?_
  refine x_iload_n rfl rfl ?_
  refine x_bipush 8 rfl (by decide) ?_
  refine x_iload_n rfl rfl ?_
  refine x_imul rfl ?_
  refine x_iadd rfl ?_
  refine x_iload_n rfl rfl ?_
  refine x_iadd rfl ?_
  refine x_aload_n rfl rfl ?_
  refine x_iload rfl rfl ?_
  exact x_calli (args := [.inr (.inr 92), .inl x4]) rfl rfl rfl k
theorem uX12_puts_33 {d : Nat} {Q : yM → Prop} {M : yM} {x1 : Int} {x2 : Int} {x3 : Int} {x4 : Int} {s0 : Int} {s1 : Int} (h1 : 0 ≤ s1 ∧ s1 < 2048) (k : ∀ M', M' = (put M 100 s1 s0) → XW kX12_puts d none (wQv Q) 34 [some (.inr (.inr 92)), some (.inl x1), some (.inl x2), some (.inl x3), some (.inl x4)] [] M') : XW kX12_puts d none (wQv Q) 33 [some (.inr (.inr 92)), some (.inl x1), some (.inl x2), some (.inl x3), some (.inl x4)] [.inl s0, .inl s1, .inr (.inr 100)] M := by
  refine x_iastore rfl ⟨sh100, Nat.le_of_ble_eq_true rfl⟩ h1  ?_
  exact k _ rfl
theorem uX12_puts_34 {d : Nat} {Q : yM → Prop} {M : yM} {x1 : Int} {x2 : Int} {x3 : Int} {x4 : Int} (k : Q M) : XW kX12_puts d none (wQv Q) 34 [some (.inr (.inr 92)), some (.inl x1), some (.inl x2), some (.inl x3), some (.inl x4)] [] M := by
  exact x_return rfl k
theorem eX12_tell {d : Nat} {Q : Int → yM → Prop} {M : yM} {x1 : Int} {x2 : Int} {x3 : Int}  (h : XW kX12_tell d (some .int) (wQi Q) 0 [some (.inr (.inr 92)), some (.inl x1), some (.inl x2), some (.inl x3), none] [] M) : XCi d 145 [.inr (.inr 92), .inl x1, .inl x2, .inl x3] M Q :=
  XC.ofW (Mm := (yX12_tell, cX12_tell, 5, (some .int), 13, kX12_tell)) rfl (rcv_ok sh92) rfl rfl h
theorem uX12_tell_0 {d : Nat} {Q : Int → yM → Prop} {M : yM} {x1 : Int} {x2 : Int} {x3 : Int} (k : ∀ M', M' = (put M 92 0 0) → XW kX12_tell d (some .int) (wQi Q) 5 [some (.inr (.inr 92)), some (.inl x1), some (.inl x2), some (.inl x3), none] [] M') : XW kX12_tell d (some .int) (wQi Q) 0 [some (.inr (.inr 92)), some (.inl x1), some (.inl x2), some (.inl x3), none] [] M := by
  refine x_aload_n rfl rfl ?_
  refine x_iconst 0 rfl (by decide) ?_
  refine x_putI rfl rfl sh92 rfl ?_
  exact k _ rfl
theorem uX12_tell_5 {d : Nat} {Q : Int → yM → Prop} {M : yM} {x1 : Int} {x2 : Int} {x3 : Int} (k : XCi d 124 [.inr (.inr 92), .inl x1] M (fun v M' => XW kX12_tell (d + 1) (some .int) (wQi Q) 10 [some (.inr (.inr 92)), some (.inl x1), some (.inl x2), some (.inl x3), none] [.inl v] M')) : XW kX12_tell (d + 1) (some .int) (wQi Q) 5 [some (.inr (.inr 92)), some (.inl x1), some (.inl x2), some (.inl x3), none] [] M := by
  refine x_aload_n rfl rfl ?_
  refine x_iload_n rfl rfl ?_
  exact x_calli (args := [.inr (.inr 92), .inl x1]) rfl rfl rfl k
theorem uX12_tell_10 {d : Nat} {Q : Int → yM → Prop} {M : yM} {x1 : Int} {x2 : Int} {x3 : Int} {s0 : Int} (h1 : -2147483648 ≤ s0 ∧ s0 < 2147483648) (kt : s0 = 0 → XW kX12_tell d (some .int) (wQi Q) 34 [some (.inr (.inr 92)), some (.inl x1), some (.inl x2), some (.inl x3), none] [] M) (kf : s0 ≠ 0 → XW kX12_tell d (some .int) (wQi Q) 13 [some (.inr (.inr 92)), some (.inl x1), some (.inl x2), some (.inl x3), none] [] M) : XW kX12_tell d (some .int) (wQi Q) 10 [some (.inr (.inr 92)), some (.inl x1), some (.inl x2), some (.inl x3), none] [.inl s0] M := by
  exact x_ifeq rfl h1 kt kf
theorem uX12_tell_13 {d : Nat} {Q : Int → yM → Prop} {M : yM} {x1 : Int} {x2 : Int} {x3 : Int} (k : XCi d 124 [.inr (.inr 92), .inl x2] M (fun v M' => XW kX12_tell (d + 1) (some .int) (wQi Q) 18 [some (.inr (.inr 92)), some (.inl x1), some (.inl x2), some (.inl x3), none] [.inl v] M')) : XW kX12_tell (d + 1) (some .int) (wQi Q) 13 [some (.inr (.inr 92)), some (.inl x1), some (.inl x2), some (.inl x3), none] [] M := by
  refine x_aload_n rfl rfl ?_
  refine x_iload_n rfl rfl ?_
  exact x_calli (args := [.inr (.inr 92), .inl x2]) rfl rfl rfl k
theorem uX12_tell_18 {d : Nat} {Q : Int → yM → Prop} {M : yM} {x1 : Int} {x2 : Int} {x3 : Int} {s0 : Int} (h1 : -2147483648 ≤ s0 ∧ s0 < 2147483648) (kt : s0 = 0 → XW kX12_tell d (some .int) (wQi Q) 34 [some (.inr (.inr 92)), some (.inl x1), some (.inl x2), some (.inl x3), none] [] M) (kf : s0 ≠ 0 → XW kX12_tell d (some .int) (wQi Q) 21 [some (.inr (.inr 92)), some (.inl x1), some (.inl x2), some (.inl x3), none] [] M) : XW kX12_tell d (some .int) (wQi Q) 18 [some (.inr (.inr 92)), some (.inl x1), some (.inl x2), some (.inl x3), none] [.inl s0] M := by
  exact x_ifeq rfl h1 kt kf
theorem uX12_tell_21 {d : Nat} {Q : Int → yM → Prop} {M : yM} {x1 : Int} {x2 : Int} {x3 : Int} (h1 : -2147483648 ≤ x1 ∧ x1 < 2147483648) (h2 : -2147483648 ≤ x2 ∧ x2 < 2147483648) (kt : x1 = x2 → XW kX12_tell d (some .int) (wQi Q) 34 [some (.inr (.inr 92)), some (.inl x1), some (.inl x2), some (.inl x3), none] [] M) (kf : x1 ≠ x2 → XW kX12_tell d (some .int) (wQi Q) 26 [some (.inr (.inr 92)), some (.inl x1), some (.inl x2), some (.inl x3), none] [] M) : XW kX12_tell d (some .int) (wQi Q) 21 [some (.inr (.inr 92)), some (.inl x1), some (.inl x2), some (.inl x3), none] [] M := by
  refine x_iload_n rfl rfl ?_
  refine x_iload_n rfl rfl ?_
  exact x_icmpeq rfl h1 h2 kt kf
theorem uX12_tell_26 {d : Nat} {Q : Int → yM → Prop} {M : yM} {x1 : Int} {x2 : Int} {x3 : Int} (k : XCi d 123 [.inr (.inr 92), .inl x3] M (fun v M' => XW kX12_tell (d + 1) (some .int) (wQi Q) 31 [some (.inr (.inr 92)), some (.inl x1), some (.inl x2), some (.inl x3), none] [.inl v] M')) : XW kX12_tell (d + 1) (some .int) (wQi Q) 26 [some (.inr (.inr 92)), some (.inl x1), some (.inl x2), some (.inl x3), none] [] M := by
  refine x_aload_n rfl rfl ?_
  refine x_iload_n rfl rfl ?_
  exact x_calli (args := [.inr (.inr 92), .inl x3]) rfl rfl rfl k
theorem uX12_tell_31 {d : Nat} {Q : Int → yM → Prop} {M : yM} {x1 : Int} {x2 : Int} {x3 : Int} {s0 : Int} (h1 : -2147483648 ≤ s0 ∧ s0 < 2147483648) (kt : s0 ≠ 0 → XW kX12_tell d (some .int) (wQi Q) 36 [some (.inr (.inr 92)), some (.inl x1), some (.inl x2), some (.inl x3), none] [] M) (kf : s0 = 0 → XW kX12_tell d (some .int) (wQi Q) 34 [some (.inr (.inr 92)), some (.inl x1), some (.inl x2), some (.inl x3), none] [] M) : XW kX12_tell d (some .int) (wQi Q) 31 [some (.inr (.inr 92)), some (.inl x1), some (.inl x2), some (.inl x3), none] [.inl s0] M := by
  exact x_ifne rfl h1 kt kf
theorem uX12_tell_34 {d : Nat} {Q : Int → yM → Prop} {M : yM} {x1 : Int} {x2 : Int} {x3 : Int} (k : Q (-1) M) : XW kX12_tell d (some .int) (wQi Q) 34 [some (.inr (.inr 92)), some (.inl x1), some (.inl x2), some (.inl x3), none] [] M := by
  refine x_iconst (-1) rfl (by decide) ?_
  exact x_ireturn rfl k
theorem uX12_tell_36 {d : Nat} {Q : Int → yM → Prop} {M : yM} {x1 : Int} {x2 : Int} {x3 : Int} (h1 : 0 ≤ ((8 * x1) + x2) ∧ ((8 * x1) + x2) < 2048) (k : XCv d 144 [.inr (.inr 92), .inl 0, .inl x1, .inl x2, .inl x3] M (fun M' => XW kX12_tell (d + 1) (some .int) (wQi Q) 57 [some (.inr (.inr 92)), some (.inl x1), some (.inl x2), some (.inl x3), some (.inl (ld M 100 ((8 * x1) + x2)))] [] M')) : XW kX12_tell (d + 1) (some .int) (wQi Q) 36 [some (.inr (.inr 92)), some (.inl x1), some (.inl x2), some (.inl x3), none] [] M := by
  refine x_aload_n rfl rfl ?_
  refine x_getR rfl sh92 rfl ?_
  refine x_bipush 8 rfl (by decide) ?_
  refine x_iload_n rfl rfl ?_
  refine x_imul rfl ?_
  refine x_iload_n rfl rfl ?_
  refine x_iadd rfl ?_
  refine x_iaload rfl ⟨sh100, Nat.le_of_ble_eq_true rfl⟩ h1 ?_
  refine x_istore rfl (Nat.le_of_ble_eq_true rfl) rfl ?_
  refine x_aload_n rfl rfl ?_
  refine x_iconst 0 rfl (by decide) ?_
  refine x_iload_n rfl rfl ?_
  refine x_iload_n rfl rfl ?_
  refine x_iload_n rfl rfl ?_
  exact x_callv (args := [.inr (.inr 92), .inl 0, .inl x1, .inl x2, .inl x3]) rfl rfl rfl k
theorem uX12_tell_57 {d : Nat} {Q : Int → yM → Prop} {M : yM} {x1 : Int} {x2 : Int} {x3 : Int} {x4 : Int} (k : Q x4 M) : XW kX12_tell d (some .int) (wQi Q) 57 [some (.inr (.inr 92)), some (.inl x1), some (.inl x2), some (.inl x3), some (.inl x4)] [] M := by
  refine x_iload rfl rfl ?_
  exact x_ireturn rfl k
theorem eX12_copies {d : Nat} {Q : yM → Prop} {M : yM} {x1 : Int} {x2 : Int}  (h : XW kX12_copies d none (wQv Q) 0 [some (.inr (.inr 92)), some (.inl x1), some (.inl x2), none] [] M) : XCv d 146 [.inr (.inr 92), .inl x1, .inl x2] M Q :=
  XC.ofW (Mm := (yX12_copies, cX12_copies, 4, none, 13, kX12_copies)) rfl (rcv_ok sh92) rfl rfl h
theorem uX12_copies_0 {d : Nat} {Q : yM → Prop} {M : yM} {x1 : Int} {x2 : Int} (k : XW kX12_copies d none (wQv Q) 2 [some (.inr (.inr 92)), some (.inl x1), some (.inl x2), some (.inl 0)] [] M) : XW kX12_copies d none (wQv Q) 0 [some (.inr (.inr 92)), some (.inl x1), some (.inl x2), none] [] M := by
  refine x_iconst 0 rfl (by decide) ?_
  refine x_istore_n rfl (Nat.le_of_ble_eq_true rfl) rfl ?_
  exact k
theorem uX12_copies_2 {d : Nat} {Q : yM → Prop} {M : yM} {x1 : Int} {x2 : Int} {x3 : Int} (h1 : -2147483648 ≤ x3 ∧ x3 < 2147483648) (kt : x3 ≥ 64 → XW kX12_copies d none (wQv Q) 30 [some (.inr (.inr 92)), some (.inl x1), some (.inl x2), some (.inl x3)] [] M) (kf : x3 < 64 → XW kX12_copies d none (wQv Q) 8 [some (.inr (.inr 92)), some (.inl x1), some (.inl x2), some (.inl x3)] [] M) : XW kX12_copies d none (wQv Q) 2 [some (.inr (.inr 92)), some (.inl x1), some (.inl x2), some (.inl x3)] [] M := by
  refine x_iload_n rfl rfl ?_
  refine x_bipush 64 rfl (by decide) ?_
  exact x_icmpge rfl h1 (by decide) kt kf
theorem uX12_copies_8 {d : Nat} {Q : yM → Prop} {M : yM} {x1 : Int} {x2 : Int} {x3 : Int} (h1 : 0 ≤ (x1 + x3) ∧ (x1 + x3) < 2048) (h2 : 0 ≤ (x2 + x3) ∧ (x2 + x3) < 2048) (k : ∀ M', M' = (put M 100 (x2 + x3) (ld M 100 (x1 + x3))) → XW kX12_copies d none (wQv Q) 24 [some (.inr (.inr 92)), some (.inl x1), some (.inl x2), some (.inl x3)] [] M') : XW kX12_copies d none (wQv Q) 8 [some (.inr (.inr 92)), some (.inl x1), some (.inl x2), some (.inl x3)] [] M := by
  refine x_aload_n rfl rfl ?_
  refine x_getR rfl sh92 rfl ?_
  refine x_iload_n rfl rfl ?_
  refine x_iload_n rfl rfl ?_
  refine x_iadd rfl ?_
  refine x_aload_n rfl rfl ?_
  refine x_getR rfl sh92 rfl ?_
  refine x_iload_n rfl rfl ?_
  refine x_iload_n rfl rfl ?_
  refine x_iadd rfl ?_
  refine x_iaload rfl ⟨sh100, Nat.le_of_ble_eq_true rfl⟩ h1 ?_
  refine x_iastore rfl ⟨sh100, Nat.le_of_ble_eq_true rfl⟩ h2  ?_
  exact k _ rfl
theorem uX12_copies_24 {d : Nat} {Q : yM → Prop} {M : yM} {x1 : Int} {x2 : Int} {x3 : Int} (k : XW kX12_copies d none (wQv Q) 2 [some (.inr (.inr 92)), some (.inl x1), some (.inl x2), some (.inl (x3 + 1))] [] M) : XW kX12_copies d none (wQv Q) 24 [some (.inr (.inr 92)), some (.inl x1), some (.inl x2), some (.inl x3)] [] M := by
  refine x_iinc 1 rfl (by decide) rfl rfl ?_
  exact x_goto rfl k
theorem uX12_copies_30 {d : Nat} {Q : yM → Prop} {M : yM} {x1 : Int} {x2 : Int} {x3 : Int} (k : Q M) : XW kX12_copies d none (wQv Q) 30 [some (.inr (.inr 92)), some (.inl x1), some (.inl x2), some (.inl x3)] [] M := by
  exact x_return rfl k
theorem eX12_isEmpty {d : Nat} {Q : Int → yM → Prop} {M : yM} {x1 : Int}  (h : XW kX12_isEmpty d (some .boolean) (wQi Q) 0 [some (.inr (.inr 92)), some (.inl x1), none, none, none] [] M) : XCi d 147 [.inr (.inr 92), .inl x1] M Q :=
  XC.ofW (Mm := (yX12_isEmpty, cX12_isEmpty, 5, (some .boolean), 13, kX12_isEmpty)) rfl (rcv_ok sh92) rfl rfl h
theorem uX12_isEmpty_0 {d : Nat} {Q : Int → yM → Prop} {M : yM} {x1 : Int} (k : XW kX12_isEmpty d (some .boolean) (wQi Q) 4 [some (.inr (.inr 92)), some (.inl x1), some (.inl 0), some (.inl 0), none] [] M) : XW kX12_isEmpty d (some .boolean) (wQi Q) 0 [some (.inr (.inr 92)), some (.inl x1), none, none, none] [] M := by
  refine x_iconst 0 rfl (by decide) ?_
  refine x_istore_n rfl (Nat.le_of_ble_eq_true rfl) rfl ?_
  refine x_iconst 0 rfl (by decide) ?_
  refine x_istore_n rfl (Nat.le_of_ble_eq_true rfl) rfl ?_
  exact k
theorem uX12_isEmpty_4 {d : Nat} {Q : Int → yM → Prop} {M : yM} {x1 : Int} {x2 : Int} {x3 : Int} {wx4 : Option yV} (h1 : -2147483648 ≤ x3 ∧ x3 < 2147483648) (kt : x3 ≥ (ld M 92 11) → XW kX12_isEmpty d (some .boolean) (wQi Q) 61 [some (.inr (.inr 92)), some (.inl x1), some (.inl x2), some (.inl x3), wx4] [] M) (kf : x3 < (ld M 92 11) → XW kX12_isEmpty d (some .boolean) (wQi Q) 12 [some (.inr (.inr 92)), some (.inl x1), some (.inl x2), some (.inl x3), wx4] [] M) : XW kX12_isEmpty d (some .boolean) (wQi Q) 4 [some (.inr (.inr 92)), some (.inl x1), some (.inl x2), some (.inl x3), wx4] [] M := by
  refine x_iload_n rfl rfl ?_
  refine x_aload_n rfl rfl ?_
  refine x_getI rfl sh92 rfl ?_
  exact x_icmpge rfl h1 (rng_ld _ _ _) kt kf
theorem uX12_isEmpty_12 {d : Nat} {Q : Int → yM → Prop} {M : yM} {x1 : Int} {x2 : Int} {x3 : Int} {wx4 : Option yV} (k : XW kX12_isEmpty d (some .boolean) (wQi Q) 15 [some (.inr (.inr 92)), some (.inl x1), some (.inl x2), some (.inl x3), some (.inl 0)] [] M) : XW kX12_isEmpty d (some .boolean) (wQi Q) 12 [some (.inr (.inr 92)), some (.inl x1), some (.inl x2), some (.inl x3), wx4] [] M := by
  refine x_iconst 0 rfl (by decide) ?_
  refine x_istore rfl (Nat.le_of_ble_eq_true rfl) rfl ?_
  exact k
theorem uX12_isEmpty_15 {d : Nat} {Q : Int → yM → Prop} {M : yM} {x1 : Int} {x2 : Int} {x3 : Int} {x4 : Int} (h1 : -2147483648 ≤ x4 ∧ x4 < 2147483648) (kt : x4 ≥ (ld M 92 11) → XW kX12_isEmpty d (some .boolean) (wQi Q) 55 [some (.inr (.inr 92)), some (.inl x1), some (.inl x2), some (.inl x3), some (.inl x4)] [] M) (kf : x4 < (ld M 92 11) → XW kX12_isEmpty d (some .boolean) (wQi Q) 24 [some (.inr (.inr 92)), some (.inl x1), some (.inl x2), some (.inl x3), some (.inl x4)] [] M) : XW kX12_isEmpty d (some .boolean) (wQi Q) 15 [some (.inr (.inr 92)), some (.inl x1), some (.inl x2), some (.inl x3), some (.inl x4)] [] M := by
  refine x_iload rfl rfl ?_
  refine x_aload_n rfl rfl ?_
  refine x_getI rfl sh92 rfl ?_
  exact x_icmpge rfl h1 (rng_ld _ _ _) kt kf
theorem uX12_isEmpty_24 {d : Nat} {Q : Int → yM → Prop} {M : yM} {x1 : Int} {x2 : Int} {x3 : Int} {x4 : Int} (h1 : 0 ≤ ((x1 + (8 * x3)) + x4) ∧ ((x1 + (8 * x3)) + x4) < 2048) (kt : (ld M 100 ((x1 + (8 * x3)) + x4)) ≠ 0 → XW kX12_isEmpty d (some .boolean) (wQi Q) 46 [some (.inr (.inr 92)), some (.inl x1), some (.inl x2), some (.inl x3), some (.inl x4)] [.inl x2] M) (kf : (ld M 100 ((x1 + (8 * x3)) + x4)) = 0 → XW kX12_isEmpty d (some .boolean) (wQi Q) 42 [some (.inr (.inr 92)), some (.inl x1), some (.inl x2), some (.inl x3), some (.inl x4)] [.inl x2] M) : XW kX12_isEmpty d (some .boolean) (wQi Q) 24 [some (.inr (.inr 92)), some (.inl x1), some (.inl x2), some (.inl x3), some (.inl x4)] [] M := by
  refine x_iload_n rfl rfl ?_
  refine x_aload_n rfl rfl ?_
  refine x_getR rfl sh92 rfl ?_
  refine x_iload_n rfl rfl ?_
  refine x_bipush 8 rfl (by decide) ?_
  refine x_iload_n rfl rfl ?_
  refine x_imul rfl ?_
  refine x_iadd rfl ?_
  refine x_iload rfl rfl ?_
  refine x_iadd rfl ?_
  refine x_iaload rfl ⟨sh100, Nat.le_of_ble_eq_true rfl⟩ h1 ?_
  exact x_ifne rfl (rng_ld _ _ _) kt kf
theorem uX12_isEmpty_42 {d : Nat} {Q : Int → yM → Prop} {M : yM} {x1 : Int} {x2 : Int} {x3 : Int} {x4 : Int} {s0 : Int} (k : XW kX12_isEmpty d (some .boolean) (wQi Q) 47 [some (.inr (.inr 92)), some (.inl x1), some (.inl x2), some (.inl x3), some (.inl x4)] [.inl 1, .inl s0] M) : XW kX12_isEmpty d (some .boolean) (wQi Q) 42 [some (.inr (.inr 92)), some (.inl x1), some (.inl x2), some (.inl x3), some (.inl x4)] [.inl s0] M := by
  refine x_iconst 1 rfl (by decide) ?_
  exact x_goto rfl k
theorem uX12_isEmpty_46 {d : Nat} {Q : Int → yM → Prop} {M : yM} {x1 : Int} {x2 : Int} {x3 : Int} {x4 : Int} {s0 : Int} (k : XW kX12_isEmpty d (some .boolean) (wQi Q) 47 [some (.inr (.inr 92)), some (.inl x1), some (.inl x2), some (.inl x3), some (.inl x4)] [.inl 0, .inl s0] M) : XW kX12_isEmpty d (some .boolean) (wQi Q) 46 [some (.inr (.inr 92)), some (.inl x1), some (.inl x2), some (.inl x3), some (.inl x4)] [.inl s0] M := by
  refine x_iconst 0 rfl (by decide) ?_
  exact k
theorem uX12_isEmpty_47 {d : Nat} {Q : Int → yM → Prop} {M : yM} {x1 : Int} {x2 : Int} {x3 : Int} {x4 : Int} {s0 : Int} {s1 : Int} (k : XW kX12_isEmpty d (some .boolean) (wQi Q) 15 [some (.inr (.inr 92)), some (.inl x1), some (.inl (yor s1 s0)), some (.inl x3), some (.inl (x4 + 1))] [] M) : XW kX12_isEmpty d (some .boolean) (wQi Q) 47 [some (.inr (.inr 92)), some (.inl x1), some (.inl x2), some (.inl x3), some (.inl x4)] [.inl s0, .inl s1] M := by
  refine x_ior rfl ?_
  refine x_istore_n rfl (Nat.le_of_ble_eq_true rfl) rfl ?_
  refine x_iinc 1 rfl (by decide) rfl rfl ?_
  exact x_goto rfl k
theorem uX12_isEmpty_55 {d : Nat} {Q : Int → yM → Prop} {M : yM} {x1 : Int} {x2 : Int} {x3 : Int} {x4 : Int} (k : XW kX12_isEmpty d (some .boolean) (wQi Q) 4 [some (.inr (.inr 92)), some (.inl x1), some (.inl x2), some (.inl (x3 + 1)), some (.inl x4)] [] M) : XW kX12_isEmpty d (some .boolean) (wQi Q) 55 [some (.inr (.inr 92)), some (.inl x1), some (.inl x2), some (.inl x3), some (.inl x4)] [] M := by
  refine x_iinc 1 rfl (by decide) rfl rfl ?_
  exact x_goto rfl k
theorem uX12_isEmpty_61 {d : Nat} {Q : Int → yM → Prop} {M : yM} {x1 : Int} {x2 : Int} {x3 : Int} {wx4 : Option yV} (h1 : x2 = 0 ∨ x2 = 1) (k : Q x2 M) : XW kX12_isEmpty d (some .boolean) (wQi Q) 61 [some (.inr (.inr 92)), some (.inl x1), some (.inl x2), some (.inl x3), wx4] [] M := by
  refine x_iload_n rfl rfl ?_
  exact x_zreturn rfl h1 k
theorem eX12_once {d : Nat} {Q : Int → yM → Prop} {M : yM} {x1 : Int}  (h : XW kX12_once d (some .boolean) (wQi Q) 0 [some (.inr (.inr 92)), some (.inl x1), none, none, none, none, none, none, none] [] M) : XCi d 148 [.inr (.inr 92), .inl x1] M Q :=
  XC.ofW (Mm := (yX12_once, cX12_once, 9, (some .boolean), 13, kX12_once)) rfl (rcv_ok sh92) rfl rfl h
theorem uX12_once_0 {d : Nat} {Q : Int → yM → Prop} {M : yM} {x1 : Int} (k : XCi d 147 [.inr (.inr 92), .inl x1] M (fun v M' => XW kX12_once (d + 1) (some .boolean) (wQi Q) 7 [some (.inr (.inr 92)), some (.inl x1), some (.inl 0), none, none, none, none, none, none] [.inl v] M')) : XW kX12_once (d + 1) (some .boolean) (wQi Q) 0 [some (.inr (.inr 92)), some (.inl x1), none, none, none, none, none, none, none] [] M := by
  refine x_iconst 0 rfl (by decide) ?_
  refine x_istore_n rfl (Nat.le_of_ble_eq_true rfl) rfl ?_
  refine x_aload_n rfl rfl ?_
  refine x_iload_n rfl rfl ?_
  exact x_calli (args := [.inr (.inr 92), .inl x1]) rfl rfl rfl k
theorem uX12_once_7 {d : Nat} {Q : Int → yM → Prop} {M : yM} {x1 : Int} {x2 : Int} {s0 : Int} (h1 : -2147483648 ≤ s0 ∧ s0 < 2147483648) (kt : s0 ≠ 0 → XW kX12_once d (some .boolean) (wQi Q) 14 [some (.inr (.inr 92)), some (.inl x1), some (.inl x2), none, none, none, none, none, none] [] M) (kf : s0 = 0 → XW kX12_once d (some .boolean) (wQi Q) 10 [some (.inr (.inr 92)), some (.inl x1), some (.inl x2), none, none, none, none, none, none] [] M) : XW kX12_once d (some .boolean) (wQi Q) 7 [some (.inr (.inr 92)), some (.inl x1), some (.inl x2), none, none, none, none, none, none] [.inl s0] M := by
  exact x_ifne rfl h1 kt kf
theorem uX12_once_10 {d : Nat} {Q : Int → yM → Prop} {M : yM} {x1 : Int} {x2 : Int} (k : XW kX12_once d (some .boolean) (wQi Q) 15 [some (.inr (.inr 92)), some (.inl x1), some (.inl x2), none, none, none, none, none, none] [.inl 1] M) : XW kX12_once d (some .boolean) (wQi Q) 10 [some (.inr (.inr 92)), some (.inl x1), some (.inl x2), none, none, none, none, none, none] [] M := by
  refine x_iconst 1 rfl (by decide) ?_
  exact x_goto rfl k
theorem uX12_once_14 {d : Nat} {Q : Int → yM → Prop} {M : yM} {x1 : Int} {x2 : Int} (k : XW kX12_once d (some .boolean) (wQi Q) 15 [some (.inr (.inr 92)), some (.inl x1), some (.inl x2), none, none, none, none, none, none] [.inl 0] M) : XW kX12_once d (some .boolean) (wQi Q) 14 [some (.inr (.inr 92)), some (.inl x1), some (.inl x2), none, none, none, none, none, none] [] M := by
  refine x_iconst 0 rfl (by decide) ?_
  exact k
theorem uX12_once_15 {d : Nat} {Q : Int → yM → Prop} {M : yM} {x1 : Int} {x2 : Int} {s0 : Int} (k : XW kX12_once d (some .boolean) (wQi Q) 19 [some (.inr (.inr 92)), some (.inl x1), some (.inl x2), some (.inl s0), some (.inl 0), none, none, none, none] [] M) : XW kX12_once d (some .boolean) (wQi Q) 15 [some (.inr (.inr 92)), some (.inl x1), some (.inl x2), none, none, none, none, none, none] [.inl s0] M := by
  refine x_istore_n rfl (Nat.le_of_ble_eq_true rfl) rfl ?_
  refine x_iconst 0 rfl (by decide) ?_
  refine x_istore rfl (Nat.le_of_ble_eq_true rfl) rfl ?_
  exact k
theorem uX12_once_19 {d : Nat} {Q : Int → yM → Prop} {M : yM} {x1 : Int} {x2 : Int} {x3 : Int} {x4 : Int} {wx5 : Option yV} {wx6 : Option yV} {wx7 : Option yV} {wx8 : Option yV} (h1 : -2147483648 ≤ x4 ∧ x4 < 2147483648) (kt : x4 ≥ (ld M 92 11) → XW kX12_once d (some .boolean) (wQi Q) 186 [some (.inr (.inr 92)), some (.inl x1), some (.inl x2), some (.inl x3), some (.inl x4), wx5, wx6, wx7, wx8] [] M) (kf : x4 < (ld M 92 11) → XW kX12_once d (some .boolean) (wQi Q) 28 [some (.inr (.inr 92)), some (.inl x1), some (.inl x2), some (.inl x3), some (.inl x4), wx5, wx6, wx7, wx8] [] M) : XW kX12_once d (some .boolean) (wQi Q) 19 [some (.inr (.inr 92)), some (.inl x1), some (.inl x2), some (.inl x3), some (.inl x4), wx5, wx6, wx7, wx8] [] M := by
  refine x_iload rfl rfl ?_
  refine x_aload_n rfl rfl ?_
  refine x_getI rfl sh92 rfl ?_
  exact x_icmpge rfl h1 (rng_ld _ _ _) kt kf
theorem uX12_once_28 {d : Nat} {Q : Int → yM → Prop} {M : yM} {x1 : Int} {x2 : Int} {x3 : Int} {x4 : Int} {wx5 : Option yV} {wx6 : Option yV} {wx7 : Option yV} {wx8 : Option yV} (h1 : -2147483648 ≤ x3 ∧ x3 < 2147483648) (kt : x3 = 0 → XW kX12_once d (some .boolean) (wQi Q) 186 [some (.inr (.inr 92)), some (.inl x1), some (.inl x2), some (.inl x3), some (.inl x4), wx5, wx6, wx7, wx8] [] M) (kf : x3 ≠ 0 → XW kX12_once d (some .boolean) (wQi Q) 32 [some (.inr (.inr 92)), some (.inl x1), some (.inl x2), some (.inl x3), some (.inl x4), wx5, wx6, wx7, wx8] [] M) : XW kX12_once d (some .boolean) (wQi Q) 28 [some (.inr (.inr 92)), some (.inl x1), some (.inl x2), some (.inl x3), some (.inl x4), wx5, wx6, wx7, wx8] [] M := by
  refine x_iload_n rfl rfl ?_
  exact x_ifeq rfl h1 kt kf
theorem uX12_once_32 {d : Nat} {Q : Int → yM → Prop} {M : yM} {x1 : Int} {x2 : Int} {x3 : Int} {x4 : Int} {wx5 : Option yV} {wx6 : Option yV} {wx7 : Option yV} {wx8 : Option yV} (k : XW kX12_once d (some .boolean) (wQi Q) 35 [some (.inr (.inr 92)), some (.inl x1), some (.inl x2), some (.inl x3), some (.inl x4), some (.inl 0), wx6, wx7, wx8] [] M) : XW kX12_once d (some .boolean) (wQi Q) 32 [some (.inr (.inr 92)), some (.inl x1), some (.inl x2), some (.inl x3), some (.inl x4), wx5, wx6, wx7, wx8] [] M := by
  refine x_iconst 0 rfl (by decide) ?_
  refine x_istore rfl (Nat.le_of_ble_eq_true rfl) rfl ?_
  exact k
theorem uX12_once_35 {d : Nat} {Q : Int → yM → Prop} {M : yM} {x1 : Int} {x2 : Int} {x3 : Int} {x4 : Int} {x5 : Int} {wx6 : Option yV} {wx7 : Option yV} {wx8 : Option yV} (h1 : -2147483648 ≤ x5 ∧ x5 < 2147483648) (kt : x5 ≥ (ld M 92 11) → XW kX12_once d (some .boolean) (wQi Q) 180 [some (.inr (.inr 92)), some (.inl x1), some (.inl x2), some (.inl x3), some (.inl x4), some (.inl x5), wx6, wx7, wx8] [] M) (kf : x5 < (ld M 92 11) → XW kX12_once d (some .boolean) (wQi Q) 44 [some (.inr (.inr 92)), some (.inl x1), some (.inl x2), some (.inl x3), some (.inl x4), some (.inl x5), wx6, wx7, wx8] [] M) : XW kX12_once d (some .boolean) (wQi Q) 35 [some (.inr (.inr 92)), some (.inl x1), some (.inl x2), some (.inl x3), some (.inl x4), some (.inl x5), wx6, wx7, wx8] [] M := by
  refine x_iload rfl rfl ?_
  refine x_aload_n rfl rfl ?_
  refine x_getI rfl sh92 rfl ?_
  exact x_icmpge rfl h1 (rng_ld _ _ _) kt kf
theorem uX12_once_44 {d : Nat} {Q : Int → yM → Prop} {M : yM} {x1 : Int} {x2 : Int} {x3 : Int} {x4 : Int} {x5 : Int} {wx6 : Option yV} {wx7 : Option yV} {wx8 : Option yV} (h1 : -2147483648 ≤ x3 ∧ x3 < 2147483648) (kt : x3 = 0 → XW kX12_once d (some .boolean) (wQi Q) 180 [some (.inr (.inr 92)), some (.inl x1), some (.inl x2), some (.inl x3), some (.inl x4), some (.inl x5), wx6, wx7, wx8] [] M) (kf : x3 ≠ 0 → XW kX12_once d (some .boolean) (wQi Q) 48 [some (.inr (.inr 92)), some (.inl x1), some (.inl x2), some (.inl x3), some (.inl x4), some (.inl x5), wx6, wx7, wx8] [] M) : XW kX12_once d (some .boolean) (wQi Q) 44 [some (.inr (.inr 92)), some (.inl x1), some (.inl x2), some (.inl x3), some (.inl x4), some (.inl x5), wx6, wx7, wx8] [] M := by
  refine x_iload_n rfl rfl ?_
  exact x_ifeq rfl h1 kt kf
theorem uX12_once_48 {d : Nat} {Q : Int → yM → Prop} {M : yM} {x1 : Int} {x2 : Int} {x3 : Int} {x4 : Int} {x5 : Int} {wx6 : Option yV} {wx7 : Option yV} {wx8 : Option yV} (k : XW kX12_once d (some .boolean) (wQi Q) 54 [some (.inr (.inr 92)), some (.inl x1), some (.inl x2), some (.inl x3), some (.inl x4), some (.inl x5), some (.inl (x4 + 1)), wx7, wx8] [] M) : XW kX12_once d (some .boolean) (wQi Q) 48 [some (.inr (.inr 92)), some (.inl x1), some (.inl x2), some (.inl x3), some (.inl x4), some (.inl x5), wx6, wx7, wx8] [] M := by
  refine x_iload rfl rfl ?_
  refine x_iconst 1 rfl (by decide) ?_
  refine x_iadd rfl ?_
  refine x_istore rfl (Nat.le_of_ble_eq_true rfl) rfl ?_
  exact k
theorem uX12_once_54 {d : Nat} {Q : Int → yM → Prop} {M : yM} {x1 : Int} {x2 : Int} {x3 : Int} {x4 : Int} {x5 : Int} {x6 : Int} {wx7 : Option yV} {wx8 : Option yV} (h1 : -2147483648 ≤ x6 ∧ x6 < 2147483648) (kt : x6 ≥ (ld M 92 11) → XW kX12_once d (some .boolean) (wQi Q) 174 [some (.inr (.inr 92)), some (.inl x1), some (.inl x2), some (.inl x3), some (.inl x4), some (.inl x5), some (.inl x6), wx7, wx8] [] M) (kf : x6 < (ld M 92 11) → XW kX12_once d (some .boolean) (wQi Q) 63 [some (.inr (.inr 92)), some (.inl x1), some (.inl x2), some (.inl x3), some (.inl x4), some (.inl x5), some (.inl x6), wx7, wx8] [] M) : XW kX12_once d (some .boolean) (wQi Q) 54 [some (.inr (.inr 92)), some (.inl x1), some (.inl x2), some (.inl x3), some (.inl x4), some (.inl x5), some (.inl x6), wx7, wx8] [] M := by
  refine x_iload rfl rfl ?_
  refine x_aload_n rfl rfl ?_
  refine x_getI rfl sh92 rfl ?_
  exact x_icmpge rfl h1 (rng_ld _ _ _) kt kf
theorem uX12_once_63 {d : Nat} {Q : Int → yM → Prop} {M : yM} {x1 : Int} {x2 : Int} {x3 : Int} {x4 : Int} {x5 : Int} {x6 : Int} {wx7 : Option yV} {wx8 : Option yV} (h1 : -2147483648 ≤ x3 ∧ x3 < 2147483648) (kt : x3 = 0 → XW kX12_once d (some .boolean) (wQi Q) 174 [some (.inr (.inr 92)), some (.inl x1), some (.inl x2), some (.inl x3), some (.inl x4), some (.inl x5), some (.inl x6), wx7, wx8] [] M) (kf : x3 ≠ 0 → XW kX12_once d (some .boolean) (wQi Q) 67 [some (.inr (.inr 92)), some (.inl x1), some (.inl x2), some (.inl x3), some (.inl x4), some (.inl x5), some (.inl x6), wx7, wx8] [] M) : XW kX12_once d (some .boolean) (wQi Q) 63 [some (.inr (.inr 92)), some (.inl x1), some (.inl x2), some (.inl x3), some (.inl x4), some (.inl x5), some (.inl x6), wx7, wx8] [] M := by
  refine x_iload_n rfl rfl ?_
  exact x_ifeq rfl h1 kt kf
theorem uX12_once_67 {d : Nat} {Q : Int → yM → Prop} {M : yM} {x1 : Int} {x2 : Int} {x3 : Int} {x4 : Int} {x5 : Int} {x6 : Int} {wx7 : Option yV} {wx8 : Option yV} (h1 : -2147483648 ≤ x5 ∧ x5 < 2147483648) (h2 : -2147483648 ≤ x4 ∧ x4 < 2147483648) (kt : x5 = x4 → XW kX12_once d (some .boolean) (wQi Q) 168 [some (.inr (.inr 92)), some (.inl x1), some (.inl x2), some (.inl x3), some (.inl x4), some (.inl x5), some (.inl x6), wx7, wx8] [] M) (kf : x5 ≠ x4 → XW kX12_once d (some .boolean) (wQi Q) 74 [some (.inr (.inr 92)), some (.inl x1), some (.inl x2), some (.inl x3), some (.inl x4), some (.inl x5), some (.inl x6), wx7, wx8] [] M) : XW kX12_once d (some .boolean) (wQi Q) 67 [some (.inr (.inr 92)), some (.inl x1), some (.inl x2), some (.inl x3), some (.inl x4), some (.inl x5), some (.inl x6), wx7, wx8] [] M := by
  refine x_iload rfl rfl ?_
  refine x_iload rfl rfl ?_
  exact x_icmpeq rfl h1 h2 kt kf
theorem uX12_once_74 {d : Nat} {Q : Int → yM → Prop} {M : yM} {x1 : Int} {x2 : Int} {x3 : Int} {x4 : Int} {x5 : Int} {x6 : Int} {wx7 : Option yV} {wx8 : Option yV} (h1 : -2147483648 ≤ x5 ∧ x5 < 2147483648) (h2 : -2147483648 ≤ x6 ∧ x6 < 2147483648) (kt : x5 = x6 → XW kX12_once d (some .boolean) (wQi Q) 168 [some (.inr (.inr 92)), some (.inl x1), some (.inl x2), some (.inl x3), some (.inl x4), some (.inl x5), some (.inl x6), wx7, wx8] [] M) (kf : x5 ≠ x6 → XW kX12_once d (some .boolean) (wQi Q) 81 [some (.inr (.inr 92)), some (.inl x1), some (.inl x2), some (.inl x3), some (.inl x4), some (.inl x5), some (.inl x6), wx7, wx8] [] M) : XW kX12_once d (some .boolean) (wQi Q) 74 [some (.inr (.inr 92)), some (.inl x1), some (.inl x2), some (.inl x3), some (.inl x4), some (.inl x5), some (.inl x6), wx7, wx8] [] M := by
  refine x_iload rfl rfl ?_
  refine x_iload rfl rfl ?_
  exact x_icmpeq rfl h1 h2 kt kf
theorem uX12_once_81 {d : Nat} {Q : Int → yM → Prop} {M : yM} {x1 : Int} {x2 : Int} {x3 : Int} {x4 : Int} {x5 : Int} {x6 : Int} {wx7 : Option yV} {wx8 : Option yV} (h1 : 0 ≤ ((x1 + (8 * x4)) + x6) ∧ ((x1 + (8 * x4)) + x6) < 2048) (h2 : 0 ≤ ((x1 + (8 * x4)) + x5) ∧ ((x1 + (8 * x4)) + x5) < 2048) (h3 : 0 ≤ ((x1 + (8 * x5)) + x6) ∧ ((x1 + (8 * x5)) + x6) < 2048) (k : XCi d 134 [.inr (.inr 92), .inl (ld M 100 ((x1 + (8 * x4)) + x5)), .inl (ld M 100 ((x1 + (8 * x5)) + x6))] M (fun v M' => XW kX12_once (d + 1) (some .boolean) (wQi Q) 134 [some (.inr (.inr 92)), some (.inl x1), some (.inl x2), some (.inl x3), some (.inl x4), some (.inl x5), some (.inl x6), some (.inl (ld M 100 ((x1 + (8 * x4)) + x6))), wx8] [.inl v, .inl (ld M 100 ((x1 + (8 * x4)) + x6))] M')) : XW kX12_once (d + 1) (some .boolean) (wQi Q) 81 [some (.inr (.inr 92)), some (.inl x1), some (.inl x2), some (.inl x3), some (.inl x4), some (.inl x5), some (.inl x6), wx7, wx8] [] M := by
  refine x_aload_n rfl rfl ?_
  refine x_getR rfl sh92 rfl ?_
  refine x_iload_n rfl rfl ?_
  refine x_bipush 8 rfl (by decide) ?_
  refine x_iload rfl rfl ?_
  refine x_imul rfl ?_
  refine x_iadd rfl ?_
  refine x_iload rfl rfl ?_
  refine x_iadd rfl ?_
  refine x_iaload rfl ⟨sh100, Nat.le_of_ble_eq_true rfl⟩ h1 ?_
  refine x_istore rfl (Nat.le_of_ble_eq_true rfl) rfl ?_
  refine x_iload rfl rfl ?_
  refine x_aload_n rfl rfl ?_
  refine x_aload_n rfl rfl ?_
  refine x_getR rfl sh92 rfl ?_
  refine x_iload_n rfl rfl ?_
  refine x_bipush 8 rfl (by decide) ?_
  refine x_iload rfl rfl ?_
  refine x_imul rfl ?_
  refine x_iadd rfl ?_
  refine x_iload rfl rfl ?_
  refine x_iadd rfl ?_
  refine x_iaload rfl ⟨sh100, Nat.le_of_ble_eq_true rfl⟩ h2 ?_
  refine x_aload_n rfl rfl ?_
  refine x_getR rfl sh92 rfl ?_
  refine x_iload_n rfl rfl ?_
  refine x_bipush 8 rfl (by decide) ?_
  refine x_iload rfl rfl ?_
  refine x_imul rfl ?_
  refine x_iadd rfl ?_
  refine x_iload rfl rfl ?_
  refine x_iadd rfl ?_
  refine x_iaload rfl ⟨sh100, Nat.le_of_ble_eq_true rfl⟩ h3 ?_
  exact x_calli (args := [.inr (.inr 92), .inl (ld M 100 ((x1 + (8 * x4)) + x5)), .inl (ld M 100 ((x1 + (8 * x5)) + x6))]) rfl rfl rfl k
theorem uX12_once_134 {d : Nat} {Q : Int → yM → Prop} {M : yM} {x1 : Int} {x2 : Int} {x3 : Int} {x4 : Int} {x5 : Int} {x6 : Int} {x7 : Int} {wx8 : Option yV} {s0 : Int} {s1 : Int} (h1 : -2147483648 ≤ x7 ∧ x7 < 2147483648) (kt : (yand s1 s0) = x7 → XW kX12_once d (some .boolean) (wQi Q) 168 [some (.inr (.inr 92)), some (.inl x1), some (.inl x2), some (.inl x3), some (.inl x4), some (.inl x5), some (.inl x6), some (.inl x7), some (.inl (yand s1 s0))] [] M) (kf : (yand s1 s0) ≠ x7 → XW kX12_once d (some .boolean) (wQi Q) 144 [some (.inr (.inr 92)), some (.inl x1), some (.inl x2), some (.inl x3), some (.inl x4), some (.inl x5), some (.inl x6), some (.inl x7), some (.inl (yand s1 s0))] [] M) : XW kX12_once d (some .boolean) (wQi Q) 134 [some (.inr (.inr 92)), some (.inl x1), some (.inl x2), some (.inl x3), some (.inl x4), some (.inl x5), some (.inl x6), some (.inl x7), wx8] [.inl s0, .inl s1] M := by
  refine x_iand rfl ?_
  refine x_istore rfl (Nat.le_of_ble_eq_true rfl) rfl ?_
  refine x_iload rfl rfl ?_
  refine x_iload rfl rfl ?_
  exact x_icmpeq rfl (rng_yand _ _) h1 kt kf
theorem uX12_once_144 {d : Nat} {Q : Int → yM → Prop} {M : yM} {x1 : Int} {x2 : Int} {x3 : Int} {x4 : Int} {x5 : Int} {x6 : Int} {x7 : Int} {x8 : Int} (k : XCv d 144 [.inr (.inr 92), .inl x1, .inl x4, .inl x6, .inl x8] M (fun M' => XW kX12_once (d + 1) (some .boolean) (wQi Q) 155 [some (.inr (.inr 92)), some (.inl x1), some (.inl x2), some (.inl x3), some (.inl x4), some (.inl x5), some (.inl x6), some (.inl x7), some (.inl x8)] [] M')) : XW kX12_once (d + 1) (some .boolean) (wQi Q) 144 [some (.inr (.inr 92)), some (.inl x1), some (.inl x2), some (.inl x3), some (.inl x4), some (.inl x5), some (.inl x6), some (.inl x7), some (.inl x8)] [] M := by
  refine x_aload_n rfl rfl ?_
  refine x_iload_n rfl rfl ?_
  refine x_iload rfl rfl ?_
  refine x_iload rfl rfl ?_
  refine x_iload rfl rfl ?_
  exact x_callv (args := [.inr (.inr 92), .inl x1, .inl x4, .inl x6, .inl x8]) rfl rfl rfl k
theorem uX12_once_155 {d : Nat} {Q : Int → yM → Prop} {M : yM} {x1 : Int} {x2 : Int} {x3 : Int} {x4 : Int} {x5 : Int} {x6 : Int} {x7 : Int} {x8 : Int} (h1 : -2147483648 ≤ x8 ∧ x8 < 2147483648) (kt : x8 = 0 → XW kX12_once d (some .boolean) (wQi Q) 166 [some (.inr (.inr 92)), some (.inl x1), some (.inl 1), some (.inl x3), some (.inl x4), some (.inl x5), some (.inl x6), some (.inl x7), some (.inl x8)] [] M) (kf : x8 ≠ 0 → XW kX12_once d (some .boolean) (wQi Q) 162 [some (.inr (.inr 92)), some (.inl x1), some (.inl 1), some (.inl x3), some (.inl x4), some (.inl x5), some (.inl x6), some (.inl x7), some (.inl x8)] [] M) : XW kX12_once d (some .boolean) (wQi Q) 155 [some (.inr (.inr 92)), some (.inl x1), some (.inl x2), some (.inl x3), some (.inl x4), some (.inl x5), some (.inl x6), some (.inl x7), some (.inl x8)] [] M := by
  refine x_iconst 1 rfl (by decide) ?_
  refine x_istore_n rfl (Nat.le_of_ble_eq_true rfl) rfl ?_
  refine x_iload rfl rfl ?_
  exact x_ifeq rfl h1 kt kf
theorem uX12_once_162 {d : Nat} {Q : Int → yM → Prop} {M : yM} {x1 : Int} {x2 : Int} {x3 : Int} {x4 : Int} {x5 : Int} {x6 : Int} {x7 : Int} {x8 : Int} (k : XW kX12_once d (some .boolean) (wQi Q) 167 [some (.inr (.inr 92)), some (.inl x1), some (.inl x2), some (.inl x3), some (.inl x4), some (.inl x5), some (.inl x6), some (.inl x7), some (.inl x8)] [.inl 1] M) : XW kX12_once d (some .boolean) (wQi Q) 162 [some (.inr (.inr 92)), some (.inl x1), some (.inl x2), some (.inl x3), some (.inl x4), some (.inl x5), some (.inl x6), some (.inl x7), some (.inl x8)] [] M := by
  refine x_iconst 1 rfl (by decide) ?_
  exact x_goto rfl k
theorem uX12_once_166 {d : Nat} {Q : Int → yM → Prop} {M : yM} {x1 : Int} {x2 : Int} {x3 : Int} {x4 : Int} {x5 : Int} {x6 : Int} {x7 : Int} {x8 : Int} (k : XW kX12_once d (some .boolean) (wQi Q) 167 [some (.inr (.inr 92)), some (.inl x1), some (.inl x2), some (.inl x3), some (.inl x4), some (.inl x5), some (.inl x6), some (.inl x7), some (.inl x8)] [.inl 0] M) : XW kX12_once d (some .boolean) (wQi Q) 166 [some (.inr (.inr 92)), some (.inl x1), some (.inl x2), some (.inl x3), some (.inl x4), some (.inl x5), some (.inl x6), some (.inl x7), some (.inl x8)] [] M := by
  refine x_iconst 0 rfl (by decide) ?_
  exact k
theorem uX12_once_167 {d : Nat} {Q : Int → yM → Prop} {M : yM} {x1 : Int} {x2 : Int} {x3 : Int} {x4 : Int} {x5 : Int} {x6 : Int} {x7 : Int} {x8 : Int} {s0 : Int} (k : XW kX12_once d (some .boolean) (wQi Q) 168 [some (.inr (.inr 92)), some (.inl x1), some (.inl x2), some (.inl s0), some (.inl x4), some (.inl x5), some (.inl x6), some (.inl x7), some (.inl x8)] [] M) : XW kX12_once d (some .boolean) (wQi Q) 167 [some (.inr (.inr 92)), some (.inl x1), some (.inl x2), some (.inl x3), some (.inl x4), some (.inl x5), some (.inl x6), some (.inl x7), some (.inl x8)] [.inl s0] M := by
  refine x_istore_n rfl (Nat.le_of_ble_eq_true rfl) rfl ?_
  exact k
theorem uX12_once_168 {d : Nat} {Q : Int → yM → Prop} {M : yM} {x1 : Int} {x2 : Int} {x3 : Int} {x4 : Int} {x5 : Int} {x6 : Int} {wx7 : Option yV} {wx8 : Option yV} (k : XW kX12_once d (some .boolean) (wQi Q) 54 [some (.inr (.inr 92)), some (.inl x1), some (.inl x2), some (.inl x3), some (.inl x4), some (.inl x5), some (.inl (x6 + 1)), wx7, wx8] [] M) : XW kX12_once d (some .boolean) (wQi Q) 168 [some (.inr (.inr 92)), some (.inl x1), some (.inl x2), some (.inl x3), some (.inl x4), some (.inl x5), some (.inl x6), wx7, wx8] [] M := by
  refine x_iinc 1 rfl (by decide) rfl rfl ?_
  exact x_goto rfl k
theorem uX12_once_174 {d : Nat} {Q : Int → yM → Prop} {M : yM} {x1 : Int} {x2 : Int} {x3 : Int} {x4 : Int} {x5 : Int} {x6 : Int} {wx7 : Option yV} {wx8 : Option yV} (k : XW kX12_once d (some .boolean) (wQi Q) 35 [some (.inr (.inr 92)), some (.inl x1), some (.inl x2), some (.inl x3), some (.inl x4), some (.inl (x5 + 1)), some (.inl x6), wx7, wx8] [] M) : XW kX12_once d (some .boolean) (wQi Q) 174 [some (.inr (.inr 92)), some (.inl x1), some (.inl x2), some (.inl x3), some (.inl x4), some (.inl x5), some (.inl x6), wx7, wx8] [] M := by
  refine x_iinc 1 rfl (by decide) rfl rfl ?_
  exact x_goto rfl k
theorem uX12_once_180 {d : Nat} {Q : Int → yM → Prop} {M : yM} {x1 : Int} {x2 : Int} {x3 : Int} {x4 : Int} {x5 : Int} {wx6 : Option yV} {wx7 : Option yV} {wx8 : Option yV} (k : XW kX12_once d (some .boolean) (wQi Q) 19 [some (.inr (.inr 92)), some (.inl x1), some (.inl x2), some (.inl x3), some (.inl (x4 + 1)), some (.inl x5), wx6, wx7, wx8] [] M) : XW kX12_once d (some .boolean) (wQi Q) 180 [some (.inr (.inr 92)), some (.inl x1), some (.inl x2), some (.inl x3), some (.inl x4), some (.inl x5), wx6, wx7, wx8] [] M := by
  refine x_iinc 1 rfl (by decide) rfl rfl ?_
  exact x_goto rfl k
theorem uX12_once_186 {d : Nat} {Q : Int → yM → Prop} {M : yM} {x1 : Int} {x2 : Int} {x3 : Int} {x4 : Int} {wx5 : Option yV} {wx6 : Option yV} {wx7 : Option yV} {wx8 : Option yV} (h1 : x2 = 0 ∨ x2 = 1) (k : Q x2 M) : XW kX12_once d (some .boolean) (wQi Q) 186 [some (.inr (.inr 92)), some (.inl x1), some (.inl x2), some (.inl x3), some (.inl x4), wx5, wx6, wx7, wx8] [] M := by
  refine x_iload_n rfl rfl ?_
  exact x_zreturn rfl h1 k
theorem eX12_fully {d : Nat} {Q : Int → yM → Prop} {M : yM} {x1 : Int}  (h : XW kX12_fully d (some .long) (wQl Q) 0 [some (.inr (.inr 92)), some (.inl x1), none, none, none] [] M) : XCl d 149 [.inr (.inr 92), .inl x1] M Q :=
  XC.ofW (Mm := (yX12_fully, cX12_fully, 5, (some .long), 13, kX12_fully)) rfl (rcv_ok sh92) rfl rfl h
theorem uX12_fully_0 {d : Nat} {Q : Int → yM → Prop} {M : yM} {x1 : Int} (k : XW kX12_fully d (some .long) (wQl Q) 7 [some (.inr (.inr 92)), some (.inl x1), some (.inr (.inl 10)), none, some (.inl 1)] [] M) : XW kX12_fully d (some .long) (wQl Q) 0 [some (.inr (.inr 92)), some (.inl x1), none, none, none] [] M := by
  refine x_ldc2_w 10 rfl (by decide) ?_
  refine x_lstore_n rfl (Nat.le_of_ble_eq_true rfl) rfl ?_
  refine x_iconst 1 rfl (by decide) ?_
  refine x_istore rfl (Nat.le_of_ble_eq_true rfl) rfl ?_
  exact k
theorem uX12_fully_7 {d : Nat} {Q : Int → yM → Prop} {M : yM} {x1 : Int} {x2 : Int} {x4 : Int} (h1 : -2147483648 ≤ x4 ∧ x4 < 2147483648) (kt : x4 = 0 → XW kX12_fully d (some .long) (wQl Q) 42 [some (.inr (.inr 92)), some (.inl x1), some (.inr (.inl x2)), none, some (.inl x4)] [] M) (kf : x4 ≠ 0 → XW kX12_fully d (some .long) (wQl Q) 12 [some (.inr (.inr 92)), some (.inl x1), some (.inr (.inl x2)), none, some (.inl x4)] [] M) : XW kX12_fully d (some .long) (wQl Q) 7 [some (.inr (.inr 92)), some (.inl x1), some (.inr (.inl x2)), none, some (.inl x4)] [] M := by
  refine x_iload rfl rfl ?_
  exact x_ifeq rfl h1 kt kf
theorem uX12_fully_12 {d : Nat} {Q : Int → yM → Prop} {M : yM} {x1 : Int} {x2 : Int} {x4 : Int} (k : XCi d 148 [.inr (.inr 92), .inl x1] M (fun v M' => XW kX12_fully (d + 1) (some .long) (wQl Q) 21 [some (.inr (.inr 92)), some (.inl x1), some (.inr (.inl (x2 + 1))), none, some (.inl x4)] [.inl v] M')) : XW kX12_fully (d + 1) (some .long) (wQl Q) 12 [some (.inr (.inr 92)), some (.inl x1), some (.inr (.inl x2)), none, some (.inl x4)] [] M := by
  refine x_lload_n rfl rfl ?_
  refine x_lconst 1 rfl (by decide) ?_
  refine x_ladd rfl ?_
  refine x_lstore_n rfl (Nat.le_of_ble_eq_true rfl) rfl ?_
  refine x_aload_n rfl rfl ?_
  refine x_iload_n rfl rfl ?_
  exact x_calli (args := [.inr (.inr 92), .inl x1]) rfl rfl rfl k
theorem uX12_fully_21 {d : Nat} {Q : Int → yM → Prop} {M : yM} {x1 : Int} {x2 : Int} {x4 : Int} {s0 : Int} (h1 : -2147483648 ≤ s0 ∧ s0 < 2147483648) (kt : s0 = 0 → XW kX12_fully d (some .long) (wQl Q) 36 [some (.inr (.inr 92)), some (.inl x1), some (.inr (.inl x2)), none, some (.inl x4)] [] M) (kf : s0 ≠ 0 → XW kX12_fully d (some .long) (wQl Q) 24 [some (.inr (.inr 92)), some (.inl x1), some (.inr (.inl x2)), none, some (.inl x4)] [] M) : XW kX12_fully d (some .long) (wQl Q) 21 [some (.inr (.inr 92)), some (.inl x1), some (.inr (.inl x2)), none, some (.inl x4)] [.inl s0] M := by
  exact x_ifeq rfl h1 kt kf
theorem uX12_fully_24 {d : Nat} {Q : Int → yM → Prop} {M : yM} {x1 : Int} {x2 : Int} {x4 : Int} (k : XCi d 147 [.inr (.inr 92), .inl x1] M (fun v M' => XW kX12_fully (d + 1) (some .long) (wQl Q) 29 [some (.inr (.inr 92)), some (.inl x1), some (.inr (.inl x2)), none, some (.inl x4)] [.inl v] M')) : XW kX12_fully (d + 1) (some .long) (wQl Q) 24 [some (.inr (.inr 92)), some (.inl x1), some (.inr (.inl x2)), none, some (.inl x4)] [] M := by
  refine x_aload_n rfl rfl ?_
  refine x_iload_n rfl rfl ?_
  exact x_calli (args := [.inr (.inr 92), .inl x1]) rfl rfl rfl k
theorem uX12_fully_29 {d : Nat} {Q : Int → yM → Prop} {M : yM} {x1 : Int} {x2 : Int} {x4 : Int} {s0 : Int} (h1 : -2147483648 ≤ s0 ∧ s0 < 2147483648) (kt : s0 ≠ 0 → XW kX12_fully d (some .long) (wQl Q) 36 [some (.inr (.inr 92)), some (.inl x1), some (.inr (.inl x2)), none, some (.inl x4)] [] M) (kf : s0 = 0 → XW kX12_fully d (some .long) (wQl Q) 32 [some (.inr (.inr 92)), some (.inl x1), some (.inr (.inl x2)), none, some (.inl x4)] [] M) : XW kX12_fully d (some .long) (wQl Q) 29 [some (.inr (.inr 92)), some (.inl x1), some (.inr (.inl x2)), none, some (.inl x4)] [.inl s0] M := by
  exact x_ifne rfl h1 kt kf
theorem uX12_fully_32 {d : Nat} {Q : Int → yM → Prop} {M : yM} {x1 : Int} {x2 : Int} {x4 : Int} (k : XW kX12_fully d (some .long) (wQl Q) 37 [some (.inr (.inr 92)), some (.inl x1), some (.inr (.inl x2)), none, some (.inl x4)] [.inl 1] M) : XW kX12_fully d (some .long) (wQl Q) 32 [some (.inr (.inr 92)), some (.inl x1), some (.inr (.inl x2)), none, some (.inl x4)] [] M := by
  refine x_iconst 1 rfl (by decide) ?_
  exact x_goto rfl k
theorem uX12_fully_36 {d : Nat} {Q : Int → yM → Prop} {M : yM} {x1 : Int} {x2 : Int} {x4 : Int} (k : XW kX12_fully d (some .long) (wQl Q) 37 [some (.inr (.inr 92)), some (.inl x1), some (.inr (.inl x2)), none, some (.inl x4)] [.inl 0] M) : XW kX12_fully d (some .long) (wQl Q) 36 [some (.inr (.inr 92)), some (.inl x1), some (.inr (.inl x2)), none, some (.inl x4)] [] M := by
  refine x_iconst 0 rfl (by decide) ?_
  exact k
theorem uX12_fully_37 {d : Nat} {Q : Int → yM → Prop} {M : yM} {x1 : Int} {x2 : Int} {x4 : Int} {s0 : Int} (k : XW kX12_fully d (some .long) (wQl Q) 7 [some (.inr (.inr 92)), some (.inl x1), some (.inr (.inl x2)), none, some (.inl s0)] [] M) : XW kX12_fully d (some .long) (wQl Q) 37 [some (.inr (.inr 92)), some (.inl x1), some (.inr (.inl x2)), none, some (.inl x4)] [.inl s0] M := by
  refine x_istore rfl (Nat.le_of_ble_eq_true rfl) rfl ?_
  exact x_goto rfl k
theorem uX12_fully_42 {d : Nat} {Q : Int → yM → Prop} {M : yM} {x1 : Int} {x2 : Int} {x4 : Int} (k : Q x2 M) : XW kX12_fully d (some .long) (wQl Q) 42 [some (.inr (.inr 92)), some (.inl x1), some (.inr (.inl x2)), none, some (.inl x4)] [] M := by
  refine x_lload_n rfl rfl ?_
  exact x_lreturn rfl k
theorem eX12_trying {d : Nat} {Q : Int → yM → Prop} {M : yM} {x1 : Int}  (h : XW kX12_trying d (some .long) (wQl Q) 0 [some (.inr (.inr 92)), some (.inl x1), none, none, none, none, none, none, none] [] M) : XCl d 150 [.inr (.inr 92), .inl x1] M Q :=
  XC.ofW (Mm := (yX12_trying, cX12_trying, 9, (some .long), 13, kX12_trying)) rfl (rcv_ok sh92) rfl rfl h
theorem uX12_trying_0 {d : Nat} {Q : Int → yM → Prop} {M : yM} {x1 : Int} (k : XW kX12_trying d (some .long) (wQl Q) 7 [some (.inr (.inr 92)), some (.inl x1), some (.inr (.inl 100)), none, some (.inl 1), none, none, none, none] [] M) : XW kX12_trying d (some .long) (wQl Q) 0 [some (.inr (.inr 92)), some (.inl x1), none, none, none, none, none, none, none] [] M := by
  refine x_ldc2_w 100 rfl (by decide) ?_
  refine x_lstore_n rfl (Nat.le_of_ble_eq_true rfl) rfl ?_
  refine x_iconst 1 rfl (by decide) ?_
  refine x_istore rfl (Nat.le_of_ble_eq_true rfl) rfl ?_
  exact k
theorem uX12_trying_7 {d : Nat} {Q : Int → yM → Prop} {M : yM} {x1 : Int} {x2 : Int} {x4 : Int} {wx5 : Option yV} {wx6 : Option yV} {wx7 : Option yV} {wx8 : Option yV} (h1 : -2147483648 ≤ x4 ∧ x4 < 2147483648) (kt : x4 = 0 → XW kX12_trying d (some .long) (wQl Q) 214 [some (.inr (.inr 92)), some (.inl x1), some (.inr (.inl x2)), none, some (.inl x4), wx5, wx6, wx7, wx8] [] M) (kf : x4 ≠ 0 → XW kX12_trying d (some .long) (wQl Q) 12 [some (.inr (.inr 92)), some (.inl x1), some (.inr (.inl x2)), none, some (.inl x4), wx5, wx6, wx7, wx8] [] M) : XW kX12_trying d (some .long) (wQl Q) 7 [some (.inr (.inr 92)), some (.inl x1), some (.inr (.inl x2)), none, some (.inl x4), wx5, wx6, wx7, wx8] [] M := by
  refine x_iload rfl rfl ?_
  exact x_ifeq rfl h1 kt kf
theorem uX12_trying_12 {d : Nat} {Q : Int → yM → Prop} {M : yM} {x1 : Int} {x2 : Int} {x4 : Int} {wx5 : Option yV} {wx6 : Option yV} {wx7 : Option yV} {wx8 : Option yV} (k : XCl d 149 [.inr (.inr 92), .inl x1] M (fun v M' => XW kX12_trying (d + 1) (some .long) (wQl Q) 18 [some (.inr (.inr 92)), some (.inl x1), some (.inr (.inl x2)), none, some (.inl x4), wx5, wx6, wx7, wx8] [.inr (.inl v), .inr (.inl x2)] M')) : XW kX12_trying (d + 1) (some .long) (wQl Q) 12 [some (.inr (.inr 92)), some (.inl x1), some (.inr (.inl x2)), none, some (.inl x4), wx5, wx6, wx7, wx8] [] M := by
  refine x_lload_n rfl rfl ?_
  refine x_aload_n rfl rfl ?_
  refine x_iload_n rfl rfl ?_
  exact x_calll (args := [.inr (.inr 92), .inl x1]) rfl rfl rfl k
theorem uX12_trying_18 {d : Nat} {Q : Int → yM → Prop} {M : yM} {x1 : Int} {x2 : Int} {x4 : Int} {wx5 : Option yV} {wx6 : Option yV} {wx7 : Option yV} {wx8 : Option yV} {s0 : Int} {s1 : Int} (k : XW kX12_trying d (some .long) (wQl Q) 26 [some (.inr (.inr 92)), some (.inl x1), some (.inr (.inl (s1 + s0))), none, some (.inl x4), some (.inl 0), some (.inl 0), wx7, wx8] [] M) : XW kX12_trying d (some .long) (wQl Q) 18 [some (.inr (.inr 92)), some (.inl x1), some (.inr (.inl x2)), none, some (.inl x4), wx5, wx6, wx7, wx8] [.inr (.inl s0), .inr (.inl s1)] M := by
  refine x_ladd rfl ?_
  refine x_lstore_n rfl (Nat.le_of_ble_eq_true rfl) rfl ?_
  refine x_iconst 0 rfl (by decide) ?_
  refine x_istore rfl (Nat.le_of_ble_eq_true rfl) rfl ?_
  refine x_iconst 0 rfl (by decide) ?_
  refine x_istore rfl (Nat.le_of_ble_eq_true rfl) rfl ?_
  exact k
theorem uX12_trying_26 {d : Nat} {Q : Int → yM → Prop} {M : yM} {x1 : Int} {x2 : Int} {x4 : Int} {x5 : Int} {x6 : Int} {wx7 : Option yV} {wx8 : Option yV} (h1 : -2147483648 ≤ x6 ∧ x6 < 2147483648) (kt : x6 ≥ (ld M 92 11) → XW kX12_trying d (some .long) (wQl Q) 191 [some (.inr (.inr 92)), some (.inl x1), some (.inr (.inl x2)), none, some (.inl x4), some (.inl x5), some (.inl x6), wx7, wx8] [] M) (kf : x6 < (ld M 92 11) → XW kX12_trying d (some .long) (wQl Q) 35 [some (.inr (.inr 92)), some (.inl x1), some (.inr (.inl x2)), none, some (.inl x4), some (.inl x5), some (.inl x6), wx7, wx8] [] M) : XW kX12_trying d (some .long) (wQl Q) 26 [some (.inr (.inr 92)), some (.inl x1), some (.inr (.inl x2)), none, some (.inl x4), some (.inl x5), some (.inl x6), wx7, wx8] [] M := by
  refine x_iload rfl rfl ?_
  refine x_aload_n rfl rfl ?_
  refine x_getI rfl sh92 rfl ?_
  exact x_icmpge rfl h1 (rng_ld _ _ _) kt kf
theorem uX12_trying_35 {d : Nat} {Q : Int → yM → Prop} {M : yM} {x1 : Int} {x2 : Int} {x4 : Int} {x5 : Int} {x6 : Int} {wx7 : Option yV} {wx8 : Option yV} (k : XW kX12_trying d (some .long) (wQl Q) 41 [some (.inr (.inr 92)), some (.inl x1), some (.inr (.inl x2)), none, some (.inl x4), some (.inl x5), some (.inl x6), some (.inl (x6 + 1)), wx8] [] M) : XW kX12_trying d (some .long) (wQl Q) 35 [some (.inr (.inr 92)), some (.inl x1), some (.inr (.inl x2)), none, some (.inl x4), some (.inl x5), some (.inl x6), wx7, wx8] [] M := by
  refine x_iload rfl rfl ?_
  refine x_iconst 1 rfl (by decide) ?_
  refine x_iadd rfl ?_
  refine x_istore rfl (Nat.le_of_ble_eq_true rfl) rfl ?_
  exact k
theorem uX12_trying_41 {d : Nat} {Q : Int → yM → Prop} {M : yM} {x1 : Int} {x2 : Int} {x4 : Int} {x5 : Int} {x6 : Int} {x7 : Int} {wx8 : Option yV} (h1 : -2147483648 ≤ x7 ∧ x7 < 2147483648) (kt : x7 ≥ (ld M 92 11) → XW kX12_trying d (some .long) (wQl Q) 185 [some (.inr (.inr 92)), some (.inl x1), some (.inr (.inl x2)), none, some (.inl x4), some (.inl x5), some (.inl x6), some (.inl x7), wx8] [] M) (kf : x7 < (ld M 92 11) → XW kX12_trying d (some .long) (wQl Q) 50 [some (.inr (.inr 92)), some (.inl x1), some (.inr (.inl x2)), none, some (.inl x4), some (.inl x5), some (.inl x6), some (.inl x7), wx8] [] M) : XW kX12_trying d (some .long) (wQl Q) 41 [some (.inr (.inr 92)), some (.inl x1), some (.inr (.inl x2)), none, some (.inl x4), some (.inl x5), some (.inl x6), some (.inl x7), wx8] [] M := by
  refine x_iload rfl rfl ?_
  refine x_aload_n rfl rfl ?_
  refine x_getI rfl sh92 rfl ?_
  exact x_icmpge rfl h1 (rng_ld _ _ _) kt kf
theorem uX12_trying_50 {d : Nat} {Q : Int → yM → Prop} {M : yM} {x1 : Int} {x2 : Int} {x4 : Int} {x5 : Int} {x6 : Int} {x7 : Int} {wx8 : Option yV} (k : XW kX12_trying d (some .long) (wQl Q) 53 [some (.inr (.inr 92)), some (.inl x1), some (.inr (.inl x2)), none, some (.inl x4), some (.inl x5), some (.inl x6), some (.inl x7), some (.inl 0)] [] M) : XW kX12_trying d (some .long) (wQl Q) 50 [some (.inr (.inr 92)), some (.inl x1), some (.inr (.inl x2)), none, some (.inl x4), some (.inl x5), some (.inl x6), some (.inl x7), wx8] [] M := by
  refine x_iconst 0 rfl (by decide) ?_
  refine x_istore rfl (Nat.le_of_ble_eq_true rfl) rfl ?_
  exact k
theorem uX12_trying_53 {d : Nat} {Q : Int → yM → Prop} {M : yM} {x1 : Int} {x2 : Int} {x4 : Int} {x5 : Int} {x6 : Int} {x7 : Int} {x8 : Int} (h1 : -2147483648 ≤ x8 ∧ x8 < 2147483648) (kt : x8 ≥ (ld M 92 2) → XW kX12_trying d (some .long) (wQl Q) 179 [some (.inr (.inr 92)), some (.inl x1), some (.inr (.inl x2)), none, some (.inl x4), some (.inl x5), some (.inl x6), some (.inl x7), some (.inl x8)] [] M) (kf : x8 < (ld M 92 2) → XW kX12_trying d (some .long) (wQl Q) 62 [some (.inr (.inr 92)), some (.inl x1), some (.inr (.inl x2)), none, some (.inl x4), some (.inl x5), some (.inl x6), some (.inl x7), some (.inl x8)] [] M) : XW kX12_trying d (some .long) (wQl Q) 53 [some (.inr (.inr 92)), some (.inl x1), some (.inr (.inl x2)), none, some (.inl x4), some (.inl x5), some (.inl x6), some (.inl x7), some (.inl x8)] [] M := by
  refine x_iload rfl rfl ?_
  refine x_aload_n rfl rfl ?_
  refine x_getI rfl sh92 rfl ?_
  exact x_icmpge rfl h1 (rng_ld _ _ _) kt kf
theorem uX12_trying_62 {d : Nat} {Q : Int → yM → Prop} {M : yM} {x1 : Int} {x2 : Int} {x4 : Int} {x5 : Int} {x6 : Int} {x7 : Int} {x8 : Int} (k : XCi d 147 [.inr (.inr 92), .inl x1] M (fun v M' => XW kX12_trying (d + 1) (some .long) (wQl Q) 67 [some (.inr (.inr 92)), some (.inl x1), some (.inr (.inl x2)), none, some (.inl x4), some (.inl x5), some (.inl x6), some (.inl x7), some (.inl x8)] [.inl v] M')) : XW kX12_trying (d + 1) (some .long) (wQl Q) 62 [some (.inr (.inr 92)), some (.inl x1), some (.inr (.inl x2)), none, some (.inl x4), some (.inl x5), some (.inl x6), some (.inl x7), some (.inl x8)] [] M := by
  refine x_aload_n rfl rfl ?_
  refine x_iload_n rfl rfl ?_
  exact x_calli (args := [.inr (.inr 92), .inl x1]) rfl rfl rfl k
theorem uX12_trying_67 {d : Nat} {Q : Int → yM → Prop} {M : yM} {x1 : Int} {x2 : Int} {x4 : Int} {x5 : Int} {x6 : Int} {x7 : Int} {x8 : Int} {s0 : Int} (h1 : -2147483648 ≤ s0 ∧ s0 < 2147483648) (kt : s0 ≠ 0 → XW kX12_trying d (some .long) (wQl Q) 173 [some (.inr (.inr 92)), some (.inl x1), some (.inr (.inl x2)), none, some (.inl x4), some (.inl x5), some (.inl x6), some (.inl x7), some (.inl x8)] [] M) (kf : s0 = 0 → XW kX12_trying d (some .long) (wQl Q) 70 [some (.inr (.inr 92)), some (.inl x1), some (.inr (.inl x2)), none, some (.inl x4), some (.inl x5), some (.inl x6), some (.inl x7), some (.inl x8)] [] M) : XW kX12_trying d (some .long) (wQl Q) 67 [some (.inr (.inr 92)), some (.inl x1), some (.inr (.inl x2)), none, some (.inl x4), some (.inl x5), some (.inl x6), some (.inl x7), some (.inl x8)] [.inl s0] M := by
  exact x_ifne rfl h1 kt kf
theorem uX12_trying_70 {d : Nat} {Q : Int → yM → Prop} {M : yM} {x1 : Int} {x2 : Int} {x4 : Int} {x5 : Int} {x6 : Int} {x7 : Int} {x8 : Int} (h1 : 0 ≤ ((x1 + (8 * x6)) + x7) ∧ ((x1 + (8 * x6)) + x7) < 2048) (kt : (yand (yshr (ld M 100 ((x1 + (8 * x6)) + x7)) x8) 1) ≠ 1 → XW kX12_trying d (some .long) (wQl Q) 173 [some (.inr (.inr 92)), some (.inl x1), some (.inr (.inl x2)), none, some (.inl x4), some (.inl x5), some (.inl x6), some (.inl x7), some (.inl x8)] [] M) (kf : (yand (yshr (ld M 100 ((x1 + (8 * x6)) + x7)) x8) 1) = 1 → XW kX12_trying d (some .long) (wQl Q) 94 [some (.inr (.inr 92)), some (.inl x1), some (.inr (.inl x2)), none, some (.inl x4), some (.inl x5), some (.inl x6), some (.inl x7), some (.inl x8)] [] M) : XW kX12_trying d (some .long) (wQl Q) 70 [some (.inr (.inr 92)), some (.inl x1), some (.inr (.inl x2)), none, some (.inl x4), some (.inl x5), some (.inl x6), some (.inl x7), some (.inl x8)] [] M := by
  refine x_aload_n rfl rfl ?_
  refine x_getR rfl sh92 rfl ?_
  refine x_iload_n rfl rfl ?_
  refine x_bipush 8 rfl (by decide) ?_
  refine x_iload rfl rfl ?_
  refine x_imul rfl ?_
  refine x_iadd rfl ?_
  refine x_iload rfl rfl ?_
  refine x_iadd rfl ?_
  refine x_iaload rfl ⟨sh100, Nat.le_of_ble_eq_true rfl⟩ h1 ?_
  refine x_iload rfl rfl ?_
  refine x_ishr rfl ?_
  refine x_iconst 1 rfl (by decide) ?_
  refine x_iand rfl ?_
  refine x_iconst 1 rfl (by decide) ?_
  exact x_icmpne rfl (rng_yand _ _) (by decide) kt kf
theorem uX12_trying_94 {d : Nat} {Q : Int → yM → Prop} {M : yM} {x1 : Int} {x2 : Int} {x4 : Int} {x5 : Int} {x6 : Int} {x7 : Int} {x8 : Int} (k : XCv d 146 [.inr (.inr 92), .inl x1, .inl (x1 + 64)] M (fun M' => XW kX12_trying (d + 1) (some .long) (wQl Q) 103 [some (.inr (.inr 92)), some (.inl x1), some (.inr (.inl x2)), none, some (.inl x4), some (.inl x5), some (.inl x6), some (.inl x7), some (.inl x8)] [] M')) : XW kX12_trying (d + 1) (some .long) (wQl Q) 94 [some (.inr (.inr 92)), some (.inl x1), some (.inr (.inl x2)), none, some (.inl x4), some (.inl x5), some (.inl x6), some (.inl x7), some (.inl x8)] [] M := by
  refine x_aload_n rfl rfl ?_
  refine x_iload_n rfl rfl ?_
  refine x_iload_n rfl rfl ?_
  refine x_bipush 64 rfl (by decide) ?_
  refine x_iadd rfl ?_
  exact x_callv (args := [.inr (.inr 92), .inl x1, .inl (x1 + 64)]) rfl rfl rfl k
theorem uX12_trying_103 {d : Nat} {Q : Int → yM → Prop} {M : yM} {x1 : Int} {x2 : Int} {x4 : Int} {x5 : Int} {x6 : Int} {x7 : Int} {x8 : Int} (k : XCv d 144 [.inr (.inr 92), .inl (x1 + 64), .inl x6, .inl x7, .inl (yshl 1 x8)] M (fun M' => XW kX12_trying (d + 1) (some .long) (wQl Q) 119 [some (.inr (.inr 92)), some (.inl x1), some (.inr (.inl x2)), none, some (.inl x4), some (.inl x5), some (.inl x6), some (.inl x7), some (.inl x8)] [] M')) : XW kX12_trying (d + 1) (some .long) (wQl Q) 103 [some (.inr (.inr 92)), some (.inl x1), some (.inr (.inl x2)), none, some (.inl x4), some (.inl x5), some (.inl x6), some (.inl x7), some (.inl x8)] [] M := by
  refine x_aload_n rfl rfl ?_
  refine x_iload_n rfl rfl ?_
  refine x_bipush 64 rfl (by decide) ?_
  refine x_iadd rfl ?_
  refine x_iload rfl rfl ?_
  refine x_iload rfl rfl ?_
  refine x_iconst 1 rfl (by decide) ?_
  refine x_iload rfl rfl ?_
  refine x_ishl rfl ?_
  exact x_callv (args := [.inr (.inr 92), .inl (x1 + 64), .inl x6, .inl x7, .inl (yshl 1 x8)]) rfl rfl rfl k
theorem uX12_trying_119 {d : Nat} {Q : Int → yM → Prop} {M : yM} {x1 : Int} {x2 : Int} {x4 : Int} {x5 : Int} {x6 : Int} {x7 : Int} {x8 : Int} (k : XCl d 149 [.inr (.inr 92), .inl (x1 + 64)] M (fun v M' => XW kX12_trying (d + 1) (some .long) (wQl Q) 127 [some (.inr (.inr 92)), some (.inl x1), some (.inr (.inl x2)), none, some (.inl x4), some (.inl x5), some (.inl x6), some (.inl x7), some (.inl x8)] [.inr (.inl v)] M')) : XW kX12_trying (d + 1) (some .long) (wQl Q) 119 [some (.inr (.inr 92)), some (.inl x1), some (.inr (.inl x2)), none, some (.inl x4), some (.inl x5), some (.inl x6), some (.inl x7), some (.inl x8)] [] M := by
  refine x_aload_n rfl rfl ?_
  refine x_iload_n rfl rfl ?_
  refine x_bipush 64 rfl (by decide) ?_
  refine x_iadd rfl ?_
  exact x_calll (args := [.inr (.inr 92), .inl (x1 + 64)]) rfl rfl rfl k
theorem uX12_trying_127 {d : Nat} {Q : Int → yM → Prop} {M : yM} {x1 : Int} {x2 : Int} {x4 : Int} {x5 : Int} {x6 : Int} {x7 : Int} {x8 : Int} {s0 : Int} (k : XCi d 147 [.inr (.inr 92), .inl (x1 + 64)] M (fun v M' => XW kX12_trying (d + 1) (some .long) (wQl Q) 136 [some (.inr (.inr 92)), some (.inl x1), some (.inr (.inl x2)), none, some (.inl x4), some (.inl x5), some (.inl x6), some (.inl x7), some (.inl x8)] [.inl v] M')) : XW kX12_trying (d + 1) (some .long) (wQl Q) 127 [some (.inr (.inr 92)), some (.inl x1), some (.inr (.inl x2)), none, some (.inl x4), some (.inl x5), some (.inl x6), some (.inl x7), some (.inl x8)] [.inr (.inl s0)] M := by
  refine x_pop2 rfl ?_
  refine x_aload_n rfl rfl ?_
  refine x_iload_n rfl rfl ?_
  refine x_bipush 64 rfl (by decide) ?_
  refine x_iadd rfl ?_
  exact x_calli (args := [.inr (.inr 92), .inl (x1 + 64)]) rfl rfl rfl k
theorem uX12_trying_136 {d : Nat} {Q : Int → yM → Prop} {M : yM} {x1 : Int} {x2 : Int} {x4 : Int} {x5 : Int} {x6 : Int} {x7 : Int} {x8 : Int} {s0 : Int} (h1 : -2147483648 ≤ s0 ∧ s0 < 2147483648) (kt : s0 = 0 → XW kX12_trying d (some .long) (wQl Q) 173 [some (.inr (.inr 92)), some (.inl x1), some (.inr (.inl x2)), none, some (.inl x4), some (.inl x5), some (.inl x6), some (.inl x7), some (.inl x8)] [] M) (kf : s0 ≠ 0 → XW kX12_trying d (some .long) (wQl Q) 139 [some (.inr (.inr 92)), some (.inl x1), some (.inr (.inl x2)), none, some (.inl x4), some (.inl x5), some (.inl x6), some (.inl x7), some (.inl x8)] [] M) : XW kX12_trying d (some .long) (wQl Q) 136 [some (.inr (.inr 92)), some (.inl x1), some (.inr (.inl x2)), none, some (.inl x4), some (.inl x5), some (.inl x6), some (.inl x7), some (.inl x8)] [.inl s0] M := by
  exact x_ifeq rfl h1 kt kf
theorem uX12_trying_139 {d : Nat} {Q : Int → yM → Prop} {M : yM} {x1 : Int} {x2 : Int} {x4 : Int} {x5 : Int} {x6 : Int} {x7 : Int} {x8 : Int} (h1 : 0 ≤ ((x1 + (8 * x6)) + x7) ∧ ((x1 + (8 * x6)) + x7) < 2048) (k : XCv d 144 [.inr (.inr 92), .inl x1, .inl x6, .inl x7, .inl (yand (ld M 100 ((x1 + (8 * x6)) + x7)) (yxor (yshl 1 x8) (-1)))] M (fun M' => XW kX12_trying (d + 1) (some .long) (wQl Q) 170 [some (.inr (.inr 92)), some (.inl x1), some (.inr (.inl x2)), none, some (.inl x4), some (.inl x5), some (.inl x6), some (.inl x7), some (.inl x8)] [] M')) : XW kX12_trying (d + 1) (some .long) (wQl Q) 139 [some (.inr (.inr 92)), some (.inl x1), some (.inr (.inl x2)), none, some (.inl x4), some (.inl x5), some (.inl x6), some (.inl x7), some (.inl x8)] [] M := by
  refine x_aload_n rfl rfl ?_
  refine x_iload_n rfl rfl ?_
  refine x_iload rfl rfl ?_
  refine x_iload rfl rfl ?_
  refine x_aload_n rfl rfl ?_
  refine x_getR rfl sh92 rfl ?_
  refine x_iload_n rfl rfl ?_
  refine x_bipush 8 rfl (by decide) ?_
  refine x_iload rfl rfl ?_
  refine x_imul rfl ?_
  refine x_iadd rfl ?_
  refine x_iload rfl rfl ?_
  refine x_iadd rfl ?_
  refine x_iaload rfl ⟨sh100, Nat.le_of_ble_eq_true rfl⟩ h1 ?_
  refine x_iconst 1 rfl (by decide) ?_
  refine x_iload rfl rfl ?_
  refine x_ishl rfl ?_
  refine x_iconst (-1) rfl (by decide) ?_
  refine x_ixor rfl ?_
  refine x_iand rfl ?_
  exact x_callv (args := [.inr (.inr 92), .inl x1, .inl x6, .inl x7, .inl (yand (ld M 100 ((x1 + (8 * x6)) + x7)) (yxor (yshl 1 x8) (-1)))]) rfl rfl rfl k
theorem uX12_trying_170 {d : Nat} {Q : Int → yM → Prop} {M : yM} {x1 : Int} {x2 : Int} {x4 : Int} {x5 : Int} {x6 : Int} {x7 : Int} {x8 : Int} (k : XW kX12_trying d (some .long) (wQl Q) 173 [some (.inr (.inr 92)), some (.inl x1), some (.inr (.inl x2)), none, some (.inl x4), some (.inl 1), some (.inl x6), some (.inl x7), some (.inl x8)] [] M) : XW kX12_trying d (some .long) (wQl Q) 170 [some (.inr (.inr 92)), some (.inl x1), some (.inr (.inl x2)), none, some (.inl x4), some (.inl x5), some (.inl x6), some (.inl x7), some (.inl x8)] [] M := by
  refine x_iconst 1 rfl (by decide) ?_
  refine x_istore rfl (Nat.le_of_ble_eq_true rfl) rfl ?_
  exact k
theorem uX12_trying_173 {d : Nat} {Q : Int → yM → Prop} {M : yM} {x1 : Int} {x2 : Int} {x4 : Int} {x5 : Int} {x6 : Int} {x7 : Int} {x8 : Int} (k : XW kX12_trying d (some .long) (wQl Q) 53 [some (.inr (.inr 92)), some (.inl x1), some (.inr (.inl x2)), none, some (.inl x4), some (.inl x5), some (.inl x6), some (.inl x7), some (.inl (x8 + 1))] [] M) : XW kX12_trying d (some .long) (wQl Q) 173 [some (.inr (.inr 92)), some (.inl x1), some (.inr (.inl x2)), none, some (.inl x4), some (.inl x5), some (.inl x6), some (.inl x7), some (.inl x8)] [] M := by
  refine x_iinc 1 rfl (by decide) rfl rfl ?_
  exact x_goto rfl k
theorem uX12_trying_179 {d : Nat} {Q : Int → yM → Prop} {M : yM} {x1 : Int} {x2 : Int} {x4 : Int} {x5 : Int} {x6 : Int} {x7 : Int} {x8 : Int} (k : XW kX12_trying d (some .long) (wQl Q) 41 [some (.inr (.inr 92)), some (.inl x1), some (.inr (.inl x2)), none, some (.inl x4), some (.inl x5), some (.inl x6), some (.inl (x7 + 1)), some (.inl x8)] [] M) : XW kX12_trying d (some .long) (wQl Q) 179 [some (.inr (.inr 92)), some (.inl x1), some (.inr (.inl x2)), none, some (.inl x4), some (.inl x5), some (.inl x6), some (.inl x7), some (.inl x8)] [] M := by
  refine x_iinc 1 rfl (by decide) rfl rfl ?_
  exact x_goto rfl k
theorem uX12_trying_185 {d : Nat} {Q : Int → yM → Prop} {M : yM} {x1 : Int} {x2 : Int} {x4 : Int} {x5 : Int} {x6 : Int} {x7 : Int} {wx8 : Option yV} (k : XW kX12_trying d (some .long) (wQl Q) 26 [some (.inr (.inr 92)), some (.inl x1), some (.inr (.inl x2)), none, some (.inl x4), some (.inl x5), some (.inl (x6 + 1)), some (.inl x7), wx8] [] M) : XW kX12_trying d (some .long) (wQl Q) 185 [some (.inr (.inr 92)), some (.inl x1), some (.inr (.inl x2)), none, some (.inl x4), some (.inl x5), some (.inl x6), some (.inl x7), wx8] [] M := by
  refine x_iinc 1 rfl (by decide) rfl rfl ?_
  exact x_goto rfl k
theorem uX12_trying_191 {d : Nat} {Q : Int → yM → Prop} {M : yM} {x1 : Int} {x2 : Int} {x4 : Int} {x5 : Int} {x6 : Int} {wx7 : Option yV} {wx8 : Option yV} (h1 : -2147483648 ≤ x5 ∧ x5 < 2147483648) (kt : x5 = 0 → XW kX12_trying d (some .long) (wQl Q) 208 [some (.inr (.inr 92)), some (.inl x1), some (.inr (.inl x2)), none, some (.inl x4), some (.inl x5), some (.inl x6), wx7, wx8] [] M) (kf : x5 ≠ 0 → XW kX12_trying d (some .long) (wQl Q) 196 [some (.inr (.inr 92)), some (.inl x1), some (.inr (.inl x2)), none, some (.inl x4), some (.inl x5), some (.inl x6), wx7, wx8] [] M) : XW kX12_trying d (some .long) (wQl Q) 191 [some (.inr (.inr 92)), some (.inl x1), some (.inr (.inl x2)), none, some (.inl x4), some (.inl x5), some (.inl x6), wx7, wx8] [] M := by
  refine x_iload rfl rfl ?_
  exact x_ifeq rfl h1 kt kf
theorem uX12_trying_196 {d : Nat} {Q : Int → yM → Prop} {M : yM} {x1 : Int} {x2 : Int} {x4 : Int} {x5 : Int} {x6 : Int} {wx7 : Option yV} {wx8 : Option yV} (k : XCi d 147 [.inr (.inr 92), .inl x1] M (fun v M' => XW kX12_trying (d + 1) (some .long) (wQl Q) 201 [some (.inr (.inr 92)), some (.inl x1), some (.inr (.inl x2)), none, some (.inl x4), some (.inl x5), some (.inl x6), wx7, wx8] [.inl v] M')) : XW kX12_trying (d + 1) (some .long) (wQl Q) 196 [some (.inr (.inr 92)), some (.inl x1), some (.inr (.inl x2)), none, some (.inl x4), some (.inl x5), some (.inl x6), wx7, wx8] [] M := by
  refine x_aload_n rfl rfl ?_
  refine x_iload_n rfl rfl ?_
  exact x_calli (args := [.inr (.inr 92), .inl x1]) rfl rfl rfl k
theorem uX12_trying_201 {d : Nat} {Q : Int → yM → Prop} {M : yM} {x1 : Int} {x2 : Int} {x4 : Int} {x5 : Int} {x6 : Int} {wx7 : Option yV} {wx8 : Option yV} {s0 : Int} (h1 : -2147483648 ≤ s0 ∧ s0 < 2147483648) (kt : s0 ≠ 0 → XW kX12_trying d (some .long) (wQl Q) 208 [some (.inr (.inr 92)), some (.inl x1), some (.inr (.inl x2)), none, some (.inl x4), some (.inl x5), some (.inl x6), wx7, wx8] [] M) (kf : s0 = 0 → XW kX12_trying d (some .long) (wQl Q) 204 [some (.inr (.inr 92)), some (.inl x1), some (.inr (.inl x2)), none, some (.inl x4), some (.inl x5), some (.inl x6), wx7, wx8] [] M) : XW kX12_trying d (some .long) (wQl Q) 201 [some (.inr (.inr 92)), some (.inl x1), some (.inr (.inl x2)), none, some (.inl x4), some (.inl x5), some (.inl x6), wx7, wx8] [.inl s0] M := by
  exact x_ifne rfl h1 kt kf
theorem uX12_trying_204 {d : Nat} {Q : Int → yM → Prop} {M : yM} {x1 : Int} {x2 : Int} {x4 : Int} {x5 : Int} {x6 : Int} {wx7 : Option yV} {wx8 : Option yV} (k : XW kX12_trying d (some .long) (wQl Q) 209 [some (.inr (.inr 92)), some (.inl x1), some (.inr (.inl x2)), none, some (.inl x4), some (.inl x5), some (.inl x6), wx7, wx8] [.inl 1] M) : XW kX12_trying d (some .long) (wQl Q) 204 [some (.inr (.inr 92)), some (.inl x1), some (.inr (.inl x2)), none, some (.inl x4), some (.inl x5), some (.inl x6), wx7, wx8] [] M := by
  refine x_iconst 1 rfl (by decide) ?_
  exact x_goto rfl k
theorem uX12_trying_208 {d : Nat} {Q : Int → yM → Prop} {M : yM} {x1 : Int} {x2 : Int} {x4 : Int} {x5 : Int} {x6 : Int} {wx7 : Option yV} {wx8 : Option yV} (k : XW kX12_trying d (some .long) (wQl Q) 209 [some (.inr (.inr 92)), some (.inl x1), some (.inr (.inl x2)), none, some (.inl x4), some (.inl x5), some (.inl x6), wx7, wx8] [.inl 0] M) : XW kX12_trying d (some .long) (wQl Q) 208 [some (.inr (.inr 92)), some (.inl x1), some (.inr (.inl x2)), none, some (.inl x4), some (.inl x5), some (.inl x6), wx7, wx8] [] M := by
  refine x_iconst 0 rfl (by decide) ?_
  exact k
theorem uX12_trying_209 {d : Nat} {Q : Int → yM → Prop} {M : yM} {x1 : Int} {x2 : Int} {x4 : Int} {x5 : Int} {x6 : Int} {wx7 : Option yV} {wx8 : Option yV} {s0 : Int} (k : XW kX12_trying d (some .long) (wQl Q) 7 [some (.inr (.inr 92)), some (.inl x1), some (.inr (.inl x2)), none, some (.inl s0), some (.inl x5), some (.inl x6), wx7, wx8] [] M) : XW kX12_trying d (some .long) (wQl Q) 209 [some (.inr (.inr 92)), some (.inl x1), some (.inr (.inl x2)), none, some (.inl x4), some (.inl x5), some (.inl x6), wx7, wx8] [.inl s0] M := by
  refine x_istore rfl (Nat.le_of_ble_eq_true rfl) rfl ?_
  exact x_goto rfl k
theorem uX12_trying_214 {d : Nat} {Q : Int → yM → Prop} {M : yM} {x1 : Int} {x2 : Int} {x4 : Int} {wx5 : Option yV} {wx6 : Option yV} {wx7 : Option yV} {wx8 : Option yV} (k : Q x2 M) : XW kX12_trying d (some .long) (wQl Q) 214 [some (.inr (.inr 92)), some (.inl x1), some (.inr (.inl x2)), none, some (.inl x4), wx5, wx6, wx7, wx8] [] M := by
  refine x_lload_n rfl rfl ?_
  exact x_lreturn rfl k
theorem eX12_narrows {d : Nat} {Q : Int → yM → Prop} {M : yM} {x1 : Int}  (h : XW kX12_narrows d (some .long) (wQl Q) 0 [some (.inr (.inr 92)), some (.inl x1)] [] M) : XCl d 151 [.inr (.inr 92), .inl x1] M Q :=
  XC.ofW (Mm := (yX12_narrows, cX12_narrows, 2, (some .long), 13, kX12_narrows)) rfl (rcv_ok sh92) rfl rfl h
theorem uX12_narrows_0 {d : Nat} {Q : Int → yM → Prop} {M : yM} {x1 : Int} (k : XCv d 146 [.inr (.inr 92), .inl 0, .inl 64] M (fun M' => XW kX12_narrows (d + 1) (some .long) (wQl Q) 7 [some (.inr (.inr 92)), some (.inl x1)] [] M')) : XW kX12_narrows (d + 1) (some .long) (wQl Q) 0 [some (.inr (.inr 92)), some (.inl x1)] [] M := by
  refine x_aload_n rfl rfl ?_
  refine x_iconst 0 rfl (by decide) ?_
  refine x_bipush 64 rfl (by decide) ?_
  exact x_callv (args := [.inr (.inr 92), .inl 0, .inl 64]) rfl rfl rfl k
theorem uX12_narrows_7 {d : Nat} {Q : Int → yM → Prop} {M : yM} {x1 : Int} (h1 : -2147483648 ≤ x1 ∧ x1 < 2147483648) (kt : x1 ≥ 0 → XW kX12_narrows d (some .long) (wQl Q) 13 [some (.inr (.inr 92)), some (.inl x1)] [] M) (kf : x1 < 0 → XW kX12_narrows d (some .long) (wQl Q) 11 [some (.inr (.inr 92)), some (.inl x1)] [] M) : XW kX12_narrows d (some .long) (wQl Q) 7 [some (.inr (.inr 92)), some (.inl x1)] [] M := by
  refine x_iload_n rfl rfl ?_
  exact x_ifge rfl h1 kt kf
theorem uX12_narrows_11 {d : Nat} {Q : Int → yM → Prop} {M : yM} {x1 : Int} (k : Q 0 M) : XW kX12_narrows d (some .long) (wQl Q) 11 [some (.inr (.inr 92)), some (.inl x1)] [] M := by
  refine x_lconst 0 rfl (by decide) ?_
  exact x_lreturn rfl k
theorem uX12_narrows_13 {d : Nat} {Q : Int → yM → Prop} {M : yM} {x1 : Int} (h1 : -2147483648 ≤ x1 ∧ x1 < 2147483648) (kt : x1 ≠ 0 → XW kX12_narrows d (some .long) (wQl Q) 26 [some (.inr (.inr 92)), some (.inl x1)] [] M) (kf : x1 = 0 → XW kX12_narrows d (some .long) (wQl Q) 17 [some (.inr (.inr 92)), some (.inl x1)] [] M) : XW kX12_narrows d (some .long) (wQl Q) 13 [some (.inr (.inr 92)), some (.inl x1)] [] M := by
  refine x_iload_n rfl rfl ?_
  exact x_ifne rfl h1 kt kf
theorem uX12_narrows_17 {d : Nat} {Q : Int → yM → Prop} {M : yM} {x1 : Int} (k : XCi d 148 [.inr (.inr 92), .inl 64] M (fun v M' => XW kX12_narrows (d + 1) (some .long) (wQl Q) 23 [some (.inr (.inr 92)), some (.inl x1)] [.inl v] M')) : XW kX12_narrows (d + 1) (some .long) (wQl Q) 17 [some (.inr (.inr 92)), some (.inl x1)] [] M := by
  refine x_aload_n rfl rfl ?_
  refine x_bipush 64 rfl (by decide) ?_
  exact x_calli (args := [.inr (.inr 92), .inl 64]) rfl rfl rfl k
theorem uX12_narrows_23 {d : Nat} {Q : Int → yM → Prop} {M : yM} {x1 : Int} {s0 : Int} (k : Q 1 M) : XW kX12_narrows d (some .long) (wQl Q) 23 [some (.inr (.inr 92)), some (.inl x1)] [.inl s0] M := by
  refine x_popi rfl ?_
  refine x_lconst 1 rfl (by decide) ?_
  exact x_lreturn rfl k
theorem uX12_narrows_26 {d : Nat} {Q : Int → yM → Prop} {M : yM} {x1 : Int} (h1 : -2147483648 ≤ x1 ∧ x1 < 2147483648) (kt : x1 ≠ 1 → XW kX12_narrows d (some .long) (wQl Q) 40 [some (.inr (.inr 92)), some (.inl x1)] [] M) (kf : x1 = 1 → XW kX12_narrows d (some .long) (wQl Q) 31 [some (.inr (.inr 92)), some (.inl x1)] [] M) : XW kX12_narrows d (some .long) (wQl Q) 26 [some (.inr (.inr 92)), some (.inl x1)] [] M := by
  refine x_iload_n rfl rfl ?_
  refine x_iconst 1 rfl (by decide) ?_
  exact x_icmpne rfl h1 (by decide) kt kf
theorem uX12_narrows_31 {d : Nat} {Q : Int → yM → Prop} {M : yM} {x1 : Int} (k : XCl d 149 [.inr (.inr 92), .inl 64] M (fun v M' => XW kX12_narrows (d + 1) (some .long) (wQl Q) 37 [some (.inr (.inr 92)), some (.inl x1)] [.inr (.inl v)] M')) : XW kX12_narrows (d + 1) (some .long) (wQl Q) 31 [some (.inr (.inr 92)), some (.inl x1)] [] M := by
  refine x_aload_n rfl rfl ?_
  refine x_bipush 64 rfl (by decide) ?_
  exact x_calll (args := [.inr (.inr 92), .inl 64]) rfl rfl rfl k
theorem uX12_narrows_37 {d : Nat} {Q : Int → yM → Prop} {M : yM} {x1 : Int} {s0 : Int} (k : XW kX12_narrows d (some .long) (wQl Q) 46 [some (.inr (.inr 92)), some (.inl x1)] [.inr (.inl s0)] M) : XW kX12_narrows d (some .long) (wQl Q) 37 [some (.inr (.inr 92)), some (.inl x1)] [.inr (.inl s0)] M := by
  exact x_goto rfl k
theorem uX12_narrows_40 {d : Nat} {Q : Int → yM → Prop} {M : yM} {x1 : Int} (k : XCl d 150 [.inr (.inr 92), .inl 64] M (fun v M' => XW kX12_narrows (d + 1) (some .long) (wQl Q) 46 [some (.inr (.inr 92)), some (.inl x1)] [.inr (.inl v)] M')) : XW kX12_narrows (d + 1) (some .long) (wQl Q) 40 [some (.inr (.inr 92)), some (.inl x1)] [] M := by
  refine x_aload_n rfl rfl ?_
  refine x_bipush 64 rfl (by decide) ?_
  exact x_calll (args := [.inr (.inr 92), .inl 64]) rfl rfl rfl k
theorem uX12_narrows_46 {d : Nat} {Q : Int → yM → Prop} {M : yM} {x1 : Int} {s0 : Int} (k : Q s0 M) : XW kX12_narrows d (some .long) (wQl Q) 46 [some (.inr (.inr 92)), some (.inl x1)] [.inr (.inl s0)] M := by
  exact x_lreturn rfl k
theorem eX12_narrow {d : Nat} {Q : Int → yM → Prop} {M : yM} {x1 : Int} {x2 : Int} {x3 : Int}  (h : XW kX12_narrow d (some .int) (wQi Q) 0 [some (.inr (.inr 92)), some (.inl x1), some (.inl x2), some (.inl x3)] [] M) : XCi d 152 [.inr (.inr 92), .inl x1, .inl x2, .inl x3] M Q :=
  XC.ofW (Mm := (yX12_narrow, cX12_narrow, 4, (some .int), 13, kX12_narrow)) rfl (rcv_ok sh92) rfl rfl h
theorem uX12_narrow_0 {d : Nat} {Q : Int → yM → Prop} {M : yM} {x1 : Int} {x2 : Int} {x3 : Int} (k : ∀ M', M' = (put M 92 0 0) → XW kX12_narrow d (some .int) (wQi Q) 5 [some (.inr (.inr 92)), some (.inl x1), some (.inl x2), some (.inl x3)] [] M') : XW kX12_narrow d (some .int) (wQi Q) 0 [some (.inr (.inr 92)), some (.inl x1), some (.inl x2), some (.inl x3)] [] M := by
  refine x_aload_n rfl rfl ?_
  refine x_iconst 0 rfl (by decide) ?_
  refine x_putI rfl rfl sh92 rfl ?_
  exact k _ rfl
theorem uX12_narrow_5 {d : Nat} {Q : Int → yM → Prop} {M : yM} {x1 : Int} {x2 : Int} {x3 : Int} (k : XCi d 120 [.inl x1, .inl (-1), .inl 2] M (fun v M' => XW kX12_narrow (d + 1) (some .int) (wQi Q) 11 [some (.inr (.inr 92)), some (.inl x1), some (.inl x2), some (.inl x3)] [.inl v] M')) : XW kX12_narrow (d + 1) (some .int) (wQi Q) 5 [some (.inr (.inr 92)), some (.inl x1), some (.inl x2), some (.inl x3)] [] M := by
  refine x_iload_n rfl rfl ?_
  refine x_iconst (-1) rfl (by decide) ?_
  refine x_iconst 2 rfl (by decide) ?_
  exact x_calli (args := [.inl x1, .inl (-1), .inl 2]) rfl rfl rfl k
theorem uX12_narrow_11 {d : Nat} {Q : Int → yM → Prop} {M : yM} {x1 : Int} {x2 : Int} {x3 : Int} {s0 : Int} (h1 : -2147483648 ≤ s0 ∧ s0 < 2147483648) (kt : s0 = 0 → XW kX12_narrow d (some .int) (wQi Q) 30 [some (.inr (.inr 92)), some (.inl x1), some (.inl x2), some (.inl x3)] [] M) (kf : s0 ≠ 0 → XW kX12_narrow d (some .int) (wQi Q) 14 [some (.inr (.inr 92)), some (.inl x1), some (.inl x2), some (.inl x3)] [] M) : XW kX12_narrow d (some .int) (wQi Q) 11 [some (.inr (.inr 92)), some (.inl x1), some (.inl x2), some (.inl x3)] [.inl s0] M := by
  exact x_ifeq rfl h1 kt kf
theorem uX12_narrow_14 {d : Nat} {Q : Int → yM → Prop} {M : yM} {x1 : Int} {x2 : Int} {x3 : Int} (k : XCi d 124 [.inr (.inr 92), .inl x2] M (fun v M' => XW kX12_narrow (d + 1) (some .int) (wQi Q) 19 [some (.inr (.inr 92)), some (.inl x1), some (.inl x2), some (.inl x3)] [.inl v] M')) : XW kX12_narrow (d + 1) (some .int) (wQi Q) 14 [some (.inr (.inr 92)), some (.inl x1), some (.inl x2), some (.inl x3)] [] M := by
  refine x_aload_n rfl rfl ?_
  refine x_iload_n rfl rfl ?_
  exact x_calli (args := [.inr (.inr 92), .inl x2]) rfl rfl rfl k
theorem uX12_narrow_19 {d : Nat} {Q : Int → yM → Prop} {M : yM} {x1 : Int} {x2 : Int} {x3 : Int} {s0 : Int} (h1 : -2147483648 ≤ s0 ∧ s0 < 2147483648) (kt : s0 = 0 → XW kX12_narrow d (some .int) (wQi Q) 30 [some (.inr (.inr 92)), some (.inl x1), some (.inl x2), some (.inl x3)] [] M) (kf : s0 ≠ 0 → XW kX12_narrow d (some .int) (wQi Q) 22 [some (.inr (.inr 92)), some (.inl x1), some (.inl x2), some (.inl x3)] [] M) : XW kX12_narrow d (some .int) (wQi Q) 19 [some (.inr (.inr 92)), some (.inl x1), some (.inl x2), some (.inl x3)] [.inl s0] M := by
  exact x_ifeq rfl h1 kt kf
theorem uX12_narrow_22 {d : Nat} {Q : Int → yM → Prop} {M : yM} {x1 : Int} {x2 : Int} {x3 : Int} (k : XCi d 124 [.inr (.inr 92), .inl x3] M (fun v M' => XW kX12_narrow (d + 1) (some .int) (wQi Q) 27 [some (.inr (.inr 92)), some (.inl x1), some (.inl x2), some (.inl x3)] [.inl v] M')) : XW kX12_narrow (d + 1) (some .int) (wQi Q) 22 [some (.inr (.inr 92)), some (.inl x1), some (.inl x2), some (.inl x3)] [] M := by
  refine x_aload_n rfl rfl ?_
  refine x_iload_n rfl rfl ?_
  exact x_calli (args := [.inr (.inr 92), .inl x3]) rfl rfl rfl k
theorem uX12_narrow_27 {d : Nat} {Q : Int → yM → Prop} {M : yM} {x1 : Int} {x2 : Int} {x3 : Int} {s0 : Int} (h1 : -2147483648 ≤ s0 ∧ s0 < 2147483648) (kt : s0 ≠ 0 → XW kX12_narrow d (some .int) (wQi Q) 32 [some (.inr (.inr 92)), some (.inl x1), some (.inl x2), some (.inl x3)] [] M) (kf : s0 = 0 → XW kX12_narrow d (some .int) (wQi Q) 30 [some (.inr (.inr 92)), some (.inl x1), some (.inl x2), some (.inl x3)] [] M) : XW kX12_narrow d (some .int) (wQi Q) 27 [some (.inr (.inr 92)), some (.inl x1), some (.inl x2), some (.inl x3)] [.inl s0] M := by
  exact x_ifne rfl h1 kt kf
theorem uX12_narrow_30 {d : Nat} {Q : Int → yM → Prop} {M : yM} {x1 : Int} {x2 : Int} {x3 : Int} (k : Q (-1) M) : XW kX12_narrow d (some .int) (wQi Q) 30 [some (.inr (.inr 92)), some (.inl x1), some (.inl x2), some (.inl x3)] [] M := by
  refine x_iconst (-1) rfl (by decide) ?_
  exact x_ireturn rfl k
theorem uX12_narrow_32 {d : Nat} {Q : Int → yM → Prop} {M : yM} {x1 : Int} {x2 : Int} {x3 : Int} (k : XCl d 151 [.inr (.inr 92), .inl x1] M (fun v M' => XW kX12_narrow (d + 1) (some .int) (wQi Q) 42 [some (.inr (.inr 92)), some (.inl x1), some (.inl x2), some (.inl x3)] [.inr (.inl v), .inr (.inl (ldL M 92 1)), .inr (.inr 92)] M')) : XW kX12_narrow (d + 1) (some .int) (wQi Q) 32 [some (.inr (.inr 92)), some (.inl x1), some (.inl x2), some (.inl x3)] [] M := by
  refine x_aload_n rfl rfl ?_
  refine x_dupa rfl ?_
  refine x_getL rfl sh92 rfl ?_
  refine x_aload_n rfl rfl ?_
  refine x_iload_n rfl rfl ?_
  exact x_calll (args := [.inr (.inr 92), .inl x1]) rfl rfl rfl k
theorem uX12_narrow_42 {d : Nat} {Q : Int → yM → Prop} {M : yM} {x1 : Int} {x2 : Int} {x3 : Int} {s0 : Int} {s1 : Int} (k : ∀ M', M' = (putL M 92 1 (s1 + s0)) → XW kX12_narrow d (some .int) (wQi Q) 46 [some (.inr (.inr 92)), some (.inl x1), some (.inl x2), some (.inl x3)] [] M') : XW kX12_narrow d (some .int) (wQi Q) 42 [some (.inr (.inr 92)), some (.inl x1), some (.inl x2), some (.inl x3)] [.inr (.inl s0), .inr (.inl s1), .inr (.inr 92)] M := by
  refine x_ladd rfl ?_
  refine x_putL rfl rfl sh92 rfl ?_
  exact k _ rfl
theorem uX12_narrow_46 {d : Nat} {Q : Int → yM → Prop} {M : yM} {x1 : Int} {x2 : Int} {x3 : Int} (h1 : 0 ≤ ((64 + (8 * x2)) + x3) ∧ ((64 + (8 * x2)) + x3) < 2048) (k : Q (ld M 100 ((64 + (8 * x2)) + x3)) M) : XW kX12_narrow d (some .int) (wQi Q) 46 [some (.inr (.inr 92)), some (.inl x1), some (.inl x2), some (.inl x3)] [] M := by
  refine x_aload_n rfl rfl ?_
  refine x_getR rfl sh92 rfl ?_
  refine x_bipush 64 rfl (by decide) ?_
  refine x_bipush 8 rfl (by decide) ?_
  refine x_iload_n rfl rfl ?_
  refine x_imul rfl ?_
  refine x_iadd rfl ?_
  refine x_iload_n rfl rfl ?_
  refine x_iadd rfl ?_
  refine x_iaload rfl ⟨sh100, Nat.le_of_ble_eq_true rfl⟩ h1 ?_
  exact x_ireturn rfl k
theorem eX12_isVoid {d : Nat} {Q : Int → yM → Prop} {M : yM} {x1 : Int}  (h : XW kX12_isVoid d (some .int) (wQi Q) 0 [some (.inr (.inr 92)), some (.inl x1)] [] M) : XCi d 153 [.inr (.inr 92), .inl x1] M Q :=
  XC.ofW (Mm := (yX12_isVoid, cX12_isVoid, 2, (some .int), 13, kX12_isVoid)) rfl (rcv_ok sh92) rfl rfl h
theorem uX12_isVoid_0 {d : Nat} {Q : Int → yM → Prop} {M : yM} {x1 : Int} (k : ∀ M', M' = (put M 92 0 0) → XW kX12_isVoid d (some .int) (wQi Q) 5 [some (.inr (.inr 92)), some (.inl x1)] [] M') : XW kX12_isVoid d (some .int) (wQi Q) 0 [some (.inr (.inr 92)), some (.inl x1)] [] M := by
  refine x_aload_n rfl rfl ?_
  refine x_iconst 0 rfl (by decide) ?_
  refine x_putI rfl rfl sh92 rfl ?_
  exact k _ rfl
theorem uX12_isVoid_5 {d : Nat} {Q : Int → yM → Prop} {M : yM} {x1 : Int} (k : XCi d 120 [.inl x1, .inl (-1), .inl 2] M (fun v M' => XW kX12_isVoid (d + 1) (some .int) (wQi Q) 11 [some (.inr (.inr 92)), some (.inl x1)] [.inl v] M')) : XW kX12_isVoid (d + 1) (some .int) (wQi Q) 5 [some (.inr (.inr 92)), some (.inl x1)] [] M := by
  refine x_iload_n rfl rfl ?_
  refine x_iconst (-1) rfl (by decide) ?_
  refine x_iconst 2 rfl (by decide) ?_
  exact x_calli (args := [.inl x1, .inl (-1), .inl 2]) rfl rfl rfl k
theorem uX12_isVoid_11 {d : Nat} {Q : Int → yM → Prop} {M : yM} {x1 : Int} {s0 : Int} (h1 : -2147483648 ≤ s0 ∧ s0 < 2147483648) (kt : s0 ≠ 0 → XW kX12_isVoid d (some .int) (wQi Q) 16 [some (.inr (.inr 92)), some (.inl x1)] [] M) (kf : s0 = 0 → XW kX12_isVoid d (some .int) (wQi Q) 14 [some (.inr (.inr 92)), some (.inl x1)] [] M) : XW kX12_isVoid d (some .int) (wQi Q) 11 [some (.inr (.inr 92)), some (.inl x1)] [.inl s0] M := by
  exact x_ifne rfl h1 kt kf
theorem uX12_isVoid_14 {d : Nat} {Q : Int → yM → Prop} {M : yM} {x1 : Int} (k : Q (-1) M) : XW kX12_isVoid d (some .int) (wQi Q) 14 [some (.inr (.inr 92)), some (.inl x1)] [] M := by
  refine x_iconst (-1) rfl (by decide) ?_
  exact x_ireturn rfl k
theorem uX12_isVoid_16 {d : Nat} {Q : Int → yM → Prop} {M : yM} {x1 : Int} (k : XCl d 151 [.inr (.inr 92), .inl x1] M (fun v M' => XW kX12_isVoid (d + 1) (some .int) (wQi Q) 21 [some (.inr (.inr 92)), some (.inl x1)] [.inr (.inl v)] M')) : XW kX12_isVoid (d + 1) (some .int) (wQi Q) 16 [some (.inr (.inr 92)), some (.inl x1)] [] M := by
  refine x_aload_n rfl rfl ?_
  refine x_iload_n rfl rfl ?_
  exact x_calll (args := [.inr (.inr 92), .inl x1]) rfl rfl rfl k
theorem uX12_isVoid_21 {d : Nat} {Q : Int → yM → Prop} {M : yM} {x1 : Int} {s0 : Int} (k : XCi d 147 [.inr (.inr 92), .inl 64] M (fun v M' => XW kX12_isVoid (d + 1) (some .int) (wQi Q) 28 [some (.inr (.inr 92)), some (.inl x1)] [.inl v] M')) : XW kX12_isVoid (d + 1) (some .int) (wQi Q) 21 [some (.inr (.inr 92)), some (.inl x1)] [.inr (.inl s0)] M := by
  refine x_pop2 rfl ?_
  refine x_aload_n rfl rfl ?_
  refine x_bipush 64 rfl (by decide) ?_
  exact x_calli (args := [.inr (.inr 92), .inl 64]) rfl rfl rfl k
theorem uX12_isVoid_28 {d : Nat} {Q : Int → yM → Prop} {M : yM} {x1 : Int} {s0 : Int} (h1 : -2147483648 ≤ s0 ∧ s0 < 2147483648) (kt : s0 = 0 → XW kX12_isVoid d (some .int) (wQi Q) 35 [some (.inr (.inr 92)), some (.inl x1)] [] M) (kf : s0 ≠ 0 → XW kX12_isVoid d (some .int) (wQi Q) 31 [some (.inr (.inr 92)), some (.inl x1)] [] M) : XW kX12_isVoid d (some .int) (wQi Q) 28 [some (.inr (.inr 92)), some (.inl x1)] [.inl s0] M := by
  exact x_ifeq rfl h1 kt kf
theorem uX12_isVoid_31 {d : Nat} {Q : Int → yM → Prop} {M : yM} {x1 : Int} (k : XW kX12_isVoid d (some .int) (wQi Q) 36 [some (.inr (.inr 92)), some (.inl x1)] [.inl 1] M) : XW kX12_isVoid d (some .int) (wQi Q) 31 [some (.inr (.inr 92)), some (.inl x1)] [] M := by
  refine x_iconst 1 rfl (by decide) ?_
  exact x_goto rfl k
theorem uX12_isVoid_35 {d : Nat} {Q : Int → yM → Prop} {M : yM} {x1 : Int} (k : XW kX12_isVoid d (some .int) (wQi Q) 36 [some (.inr (.inr 92)), some (.inl x1)] [.inl 0] M) : XW kX12_isVoid d (some .int) (wQi Q) 35 [some (.inr (.inr 92)), some (.inl x1)] [] M := by
  refine x_iconst 0 rfl (by decide) ?_
  exact k
theorem uX12_isVoid_36 {d : Nat} {Q : Int → yM → Prop} {M : yM} {x1 : Int} {s0 : Int} (k : Q s0 M) : XW kX12_isVoid d (some .int) (wQi Q) 36 [some (.inr (.inr 92)), some (.inl x1)] [.inl s0] M := by
  exact x_ireturn rfl k
theorem eX12_fills {d : Nat} {Q : yM → Prop} {M : yM} {x1 : Int}  (h : XW kX12_fills d none (wQv Q) 0 [some (.inr (.inr 92)), some (.inl x1), none, none, none, none] [] M) : XCv d 154 [.inr (.inr 92), .inl x1] M Q :=
  XC.ofW (Mm := (yX12_fills, cX12_fills, 6, none, 13, kX12_fills)) rfl (rcv_ok sh92) rfl rfl h
theorem uX12_fills_0 {d : Nat} {Q : yM → Prop} {M : yM} {x1 : Int} (k : ∀ M', M' = (put M 92 15 0) → XW kX12_fills d none (wQv Q) 5 [some (.inr (.inr 92)), some (.inl x1), none, none, none, none] [] M') : XW kX12_fills d none (wQv Q) 0 [some (.inr (.inr 92)), some (.inl x1), none, none, none, none] [] M := by
  refine x_aload_n rfl rfl ?_
  refine x_iconst 0 rfl (by decide) ?_
  refine x_putI rfl rfl sh92 rfl ?_
  exact k _ rfl
theorem uX12_fills_5 {d : Nat} {Q : yM → Prop} {M : yM} {x1 : Int} (k : XW kX12_fills d none (wQv Q) 7 [some (.inr (.inr 92)), some (.inl x1), some (.inl 0), none, none, none] [] M) : XW kX12_fills d none (wQv Q) 5 [some (.inr (.inr 92)), some (.inl x1), none, none, none, none] [] M := by
  refine x_iconst 0 rfl (by decide) ?_
  refine x_istore_n rfl (Nat.le_of_ble_eq_true rfl) rfl ?_
  exact k
theorem uX12_fills_7 {d : Nat} {Q : yM → Prop} {M : yM} {x1 : Int} {x2 : Int} {wx3 : Option yV} (h1 : -2147483648 ≤ x2 ∧ x2 < 2147483648) (kt : x2 ≥ (ld M 92 11) → XW kX12_fills d none (wQv Q) 69 [some (.inr (.inr 92)), some (.inl x1), some (.inl x2), wx3, none, none] [] M) (kf : x2 < (ld M 92 11) → XW kX12_fills d none (wQv Q) 15 [some (.inr (.inr 92)), some (.inl x1), some (.inl x2), wx3, none, none] [] M) : XW kX12_fills d none (wQv Q) 7 [some (.inr (.inr 92)), some (.inl x1), some (.inl x2), wx3, none, none] [] M := by
  refine x_iload_n rfl rfl ?_
  refine x_aload_n rfl rfl ?_
  refine x_getI rfl sh92 rfl ?_
  exact x_icmpge rfl h1 (rng_ld _ _ _) kt kf
theorem uX12_fills_15 {d : Nat} {Q : yM → Prop} {M : yM} {x1 : Int} {x2 : Int} {wx3 : Option yV} (k : XW kX12_fills d none (wQv Q) 19 [some (.inr (.inr 92)), some (.inl x1), some (.inl x2), some (.inl (x2 + 1)), none, none] [] M) : XW kX12_fills d none (wQv Q) 15 [some (.inr (.inr 92)), some (.inl x1), some (.inl x2), wx3, none, none] [] M := by
  refine x_iload_n rfl rfl ?_
  refine x_iconst 1 rfl (by decide) ?_
  refine x_iadd rfl ?_
  refine x_istore_n rfl (Nat.le_of_ble_eq_true rfl) rfl ?_
  exact k
theorem uX12_fills_19 {d : Nat} {Q : yM → Prop} {M : yM} {x1 : Int} {x2 : Int} {x3 : Int} (h1 : -2147483648 ≤ x3 ∧ x3 < 2147483648) (kt : x3 ≥ (ld M 92 11) → XW kX12_fills d none (wQv Q) 63 [some (.inr (.inr 92)), some (.inl x1), some (.inl x2), some (.inl x3), none, none] [] M) (kf : x3 < (ld M 92 11) → XW kX12_fills d none (wQv Q) 27 [some (.inr (.inr 92)), some (.inl x1), some (.inl x2), some (.inl x3), none, none] [] M) : XW kX12_fills d none (wQv Q) 19 [some (.inr (.inr 92)), some (.inl x1), some (.inl x2), some (.inl x3), none, none] [] M := by
  refine x_iload_n rfl rfl ?_
  refine x_aload_n rfl rfl ?_
  refine x_getI rfl sh92 rfl ?_
  exact x_icmpge rfl h1 (rng_ld _ _ _) kt kf
theorem uX12_fills_27 {d : Nat} {Q : yM → Prop} {M : yM} {x1 : Int} {x2 : Int} {x3 : Int} (h1 : 0 ≤ (ld M 92 15) ∧ (ld M 92 15) < 28) (k : ∀ M', M' = (put M 101 (ld M 92 15) x2) → XW kX12_fills d none (wQv Q) 37 [some (.inr (.inr 92)), some (.inl x1), some (.inl x2), some (.inl x3), none, none] [] M') : XW kX12_fills d none (wQv Q) 27 [some (.inr (.inr 92)), some (.inl x1), some (.inl x2), some (.inl x3), none, none] [] M := by
  refine x_aload_n rfl rfl ?_
  refine x_getR rfl sh92 rfl ?_
  refine x_aload_n rfl rfl ?_
  refine x_getI rfl sh92 rfl ?_
  refine x_iload_n rfl rfl ?_
  refine x_iastore rfl ⟨sh101, Nat.le_of_ble_eq_true rfl⟩ h1  ?_
  exact k _ rfl
theorem uX12_fills_37 {d : Nat} {Q : yM → Prop} {M : yM} {x1 : Int} {x2 : Int} {x3 : Int} (h1 : 0 ≤ (ld M 92 15) ∧ (ld M 92 15) < 28) (k : ∀ M', M' = (put M 102 (ld M 92 15) x3) → XW kX12_fills d none (wQv Q) 47 [some (.inr (.inr 92)), some (.inl x1), some (.inl x2), some (.inl x3), none, none] [] M') : XW kX12_fills d none (wQv Q) 37 [some (.inr (.inr 92)), some (.inl x1), some (.inl x2), some (.inl x3), none, none] [] M := by
  refine x_aload_n rfl rfl ?_
  refine x_getR rfl sh92 rfl ?_
  refine x_aload_n rfl rfl ?_
  refine x_getI rfl sh92 rfl ?_
  refine x_iload_n rfl rfl ?_
  refine x_iastore rfl ⟨sh102, Nat.le_of_ble_eq_true rfl⟩ h1  ?_
  exact k _ rfl
theorem uX12_fills_47 {d : Nat} {Q : yM → Prop} {M : yM} {x1 : Int} {x2 : Int} {x3 : Int} (k : ∀ M', M' = (put M 92 15 ((ld M 92 15) + 1)) → XW kX12_fills d none (wQv Q) 57 [some (.inr (.inr 92)), some (.inl x1), some (.inl x2), some (.inl x3), none, none] [] M') : XW kX12_fills d none (wQv Q) 47 [some (.inr (.inr 92)), some (.inl x1), some (.inl x2), some (.inl x3), none, none] [] M := by
  refine x_aload_n rfl rfl ?_
  refine x_dupa rfl ?_
  refine x_getI rfl sh92 rfl ?_
  refine x_iconst 1 rfl (by decide) ?_
  refine x_iadd rfl ?_
  refine x_putI rfl rfl sh92 rfl ?_
  exact k _ rfl
theorem uX12_fills_57 {d : Nat} {Q : yM → Prop} {M : yM} {x1 : Int} {x2 : Int} {x3 : Int} (k : XW kX12_fills d none (wQv Q) 19 [some (.inr (.inr 92)), some (.inl x1), some (.inl x2), some (.inl (x3 + 1)), none, none] [] M) : XW kX12_fills d none (wQv Q) 57 [some (.inr (.inr 92)), some (.inl x1), some (.inl x2), some (.inl x3), none, none] [] M := by
  refine x_iinc 1 rfl (by decide) rfl rfl ?_
  exact x_goto rfl k
theorem uX12_fills_63 {d : Nat} {Q : yM → Prop} {M : yM} {x1 : Int} {x2 : Int} {x3 : Int} (k : XW kX12_fills d none (wQv Q) 7 [some (.inr (.inr 92)), some (.inl x1), some (.inl (x2 + 1)), some (.inl x3), none, none] [] M) : XW kX12_fills d none (wQv Q) 63 [some (.inr (.inr 92)), some (.inl x1), some (.inl x2), some (.inl x3), none, none] [] M := by
  refine x_iinc 1 rfl (by decide) rfl rfl ?_
  exact x_goto rfl k
theorem uX12_fills_69 {d : Nat} {Q : yM → Prop} {M : yM} {x1 : Int} {x2 : Int} {wx3 : Option yV} (k : ∀ M', M' = (put M 92 17 0) → XW kX12_fills d none (wQv Q) 74 [some (.inr (.inr 92)), some (.inl x1), some (.inl x2), wx3, none, none] [] M') : XW kX12_fills d none (wQv Q) 69 [some (.inr (.inr 92)), some (.inl x1), some (.inl x2), wx3, none, none] [] M := by
  refine x_aload_n rfl rfl ?_
  refine x_iconst 0 rfl (by decide) ?_
  refine x_putI rfl rfl sh92 rfl ?_
  exact k _ rfl
theorem uX12_fills_74 {d : Nat} {Q : yM → Prop} {M : yM} {x1 : Int} {x2 : Int} {wx3 : Option yV} (k : XW kX12_fills d none (wQv Q) 76 [some (.inr (.inr 92)), some (.inl x1), some (.inl 0), wx3, none, none] [] M) : XW kX12_fills d none (wQv Q) 74 [some (.inr (.inr 92)), some (.inl x1), some (.inl x2), wx3, none, none] [] M := by
  refine x_iconst 0 rfl (by decide) ?_
  refine x_istore_n rfl (Nat.le_of_ble_eq_true rfl) rfl ?_
  exact k
theorem uX12_fills_76 {d : Nat} {Q : yM → Prop} {M : yM} {x1 : Int} {x2 : Int} {wx3 : Option yV} (h1 : -2147483648 ≤ x2 ∧ x2 < 2147483648) (kt : x2 ≥ 64 → XW kX12_fills d none (wQv Q) 103 [some (.inr (.inr 92)), some (.inl x1), some (.inl x2), wx3, none, none] [] M) (kf : x2 < 64 → XW kX12_fills d none (wQv Q) 82 [some (.inr (.inr 92)), some (.inl x1), some (.inl x2), wx3, none, none] [] M) : XW kX12_fills d none (wQv Q) 76 [some (.inr (.inr 92)), some (.inl x1), some (.inl x2), wx3, none, none] [] M := by
  refine x_iload_n rfl rfl ?_
  refine x_bipush 64 rfl (by decide) ?_
  exact x_icmpge rfl h1 (by decide) kt kf
theorem uX12_fills_82 {d : Nat} {Q : yM → Prop} {M : yM} {x1 : Int} {x2 : Int} {wx3 : Option yV} (h1 : 0 ≤ x2 ∧ x2 < 64) (k : ∀ M', M' = (put M 105 x2 0) → XW kX12_fills d none (wQv Q) 89 [some (.inr (.inr 92)), some (.inl x1), some (.inl x2), wx3, none, none] [] M') : XW kX12_fills d none (wQv Q) 82 [some (.inr (.inr 92)), some (.inl x1), some (.inl x2), wx3, none, none] [] M := by
  refine x_aload_n rfl rfl ?_
  refine x_getR rfl sh92 rfl ?_
  refine x_iload_n rfl rfl ?_
  refine x_iconst 0 rfl (by decide) ?_
  refine x_iastore rfl ⟨sh105, Nat.le_of_ble_eq_true rfl⟩ h1  ?_
  exact k _ rfl
theorem uX12_fills_89 {d : Nat} {Q : yM → Prop} {M : yM} {x1 : Int} {x2 : Int} {wx3 : Option yV} (h1 : 0 ≤ x2 ∧ x2 < 64) (k : ∀ M', M' = (put M 104 x2 (-9)) → XW kX12_fills d none (wQv Q) 97 [some (.inr (.inr 92)), some (.inl x1), some (.inl x2), wx3, none, none] [] M') : XW kX12_fills d none (wQv Q) 89 [some (.inr (.inr 92)), some (.inl x1), some (.inl x2), wx3, none, none] [] M := by
  refine x_aload_n rfl rfl ?_
  refine x_getR rfl sh92 rfl ?_
  refine x_iload_n rfl rfl ?_
  refine x_bipush (-9) rfl (by decide) ?_
  refine x_iastore rfl ⟨sh104, Nat.le_of_ble_eq_true rfl⟩ h1  ?_
  exact k _ rfl
theorem uX12_fills_97 {d : Nat} {Q : yM → Prop} {M : yM} {x1 : Int} {x2 : Int} {wx3 : Option yV} (k : XW kX12_fills d none (wQv Q) 76 [some (.inr (.inr 92)), some (.inl x1), some (.inl (x2 + 1)), wx3, none, none] [] M) : XW kX12_fills d none (wQv Q) 97 [some (.inr (.inr 92)), some (.inl x1), some (.inl x2), wx3, none, none] [] M := by
  refine x_iinc 1 rfl (by decide) rfl rfl ?_
  exact x_goto rfl k
theorem uX12_fills_103 {d : Nat} {Q : yM → Prop} {M : yM} {x1 : Int} {x2 : Int} {wx3 : Option yV} (k : XCl d 149 [.inr (.inr 92), .inl 64] M (fun v M' => XW kX12_fills (d + 1) none (wQv Q) 109 [some (.inr (.inr 92)), some (.inl x1), some (.inl x2), wx3, none, none] [.inr (.inl v)] M')) : XW kX12_fills (d + 1) none (wQv Q) 103 [some (.inr (.inr 92)), some (.inl x1), some (.inl x2), wx3, none, none] [] M := by
  refine x_aload_n rfl rfl ?_
  refine x_bipush 64 rfl (by decide) ?_
  exact x_calll (args := [.inr (.inr 92), .inl 64]) rfl rfl rfl k
theorem uX12_fills_109 {d : Nat} {Q : yM → Prop} {M : yM} {x1 : Int} {x2 : Int} {wx3 : Option yV} {s0 : Int} (k : XCi d 147 [.inr (.inr 92), .inl 64] M (fun v M' => XW kX12_fills (d + 1) none (wQv Q) 116 [some (.inr (.inr 92)), some (.inl x1), some (.inl x2), wx3, none, none] [.inl v] M')) : XW kX12_fills (d + 1) none (wQv Q) 109 [some (.inr (.inr 92)), some (.inl x1), some (.inl x2), wx3, none, none] [.inr (.inl s0)] M := by
  refine x_pop2 rfl ?_
  refine x_aload_n rfl rfl ?_
  refine x_bipush 64 rfl (by decide) ?_
  exact x_calli (args := [.inr (.inr 92), .inl 64]) rfl rfl rfl k
theorem uX12_fills_116 {d : Nat} {Q : yM → Prop} {M : yM} {x1 : Int} {x2 : Int} {wx3 : Option yV} {s0 : Int} (h1 : -2147483648 ≤ s0 ∧ s0 < 2147483648) (kt : s0 = 0 → XW kX12_fills d none (wQv Q) 120 [some (.inr (.inr 92)), some (.inl x1), some (.inl x2), wx3, none, none] [] M) (kf : s0 ≠ 0 → XW kX12_fills d none (wQv Q) 119 [some (.inr (.inr 92)), some (.inl x1), some (.inl x2), wx3, none, none] [] M) : XW kX12_fills d none (wQv Q) 116 [some (.inr (.inr 92)), some (.inl x1), some (.inl x2), wx3, none, none] [.inl s0] M := by
  exact x_ifeq rfl h1 kt kf
theorem uX12_fills_119 {d : Nat} {Q : yM → Prop} {M : yM} {x1 : Int} {x2 : Int} {wx3 : Option yV} (k : Q M) : XW kX12_fills d none (wQv Q) 119 [some (.inr (.inr 92)), some (.inl x1), some (.inl x2), wx3, none, none] [] M := by
  exact x_return rfl k
theorem uX12_fills_120 {d : Nat} {Q : yM → Prop} {M : yM} {x1 : Int} {x2 : Int} {wx3 : Option yV} (k : ∀ M', M' = (put M 103 0 (-1)) → XW kX12_fills d none (wQv Q) 129 [some (.inr (.inr 92)), some (.inl x1), some (.inl 0), wx3, none, none] [] M') : XW kX12_fills d none (wQv Q) 120 [some (.inr (.inr 92)), some (.inl x1), some (.inl x2), wx3, none, none] [] M := by
  refine x_iconst 0 rfl (by decide) ?_
  refine x_istore_n rfl (Nat.le_of_ble_eq_true rfl) rfl ?_
  refine x_aload_n rfl rfl ?_
  refine x_getR rfl sh92 rfl ?_
  refine x_iconst 0 rfl (by decide) ?_
  refine x_iconst (-1) rfl (by decide) ?_
  refine x_iastore rfl ⟨sh103, Nat.le_of_ble_eq_true rfl⟩ (by decide)  ?_
  exact k _ rfl
theorem uX12_fills_129 {d : Nat} {Q : yM → Prop} {M : yM} {x1 : Int} {x2 : Int} {wx3 : Option yV} {wx4 : Option yV} {wx5 : Option yV} (h1 : -2147483648 ≤ x2 ∧ x2 < 2147483648) (kt : x2 < 0 → XW kX12_fills d none (wQv Q) 324 [some (.inr (.inr 92)), some (.inl x1), some (.inl x2), wx3, wx4, wx5] [] M) (kf : x2 ≥ 0 → XW kX12_fills d none (wQv Q) 133 [some (.inr (.inr 92)), some (.inl x1), some (.inl x2), wx3, wx4, wx5] [] M) : XW kX12_fills d none (wQv Q) 129 [some (.inr (.inr 92)), some (.inl x1), some (.inl x2), wx3, wx4, wx5] [] M := by
  refine x_iload_n rfl rfl ?_
  exact x_iflt rfl h1 kt kf
theorem uX12_fills_133 {d : Nat} {Q : yM → Prop} {M : yM} {x1 : Int} {x2 : Int} {wx3 : Option yV} {wx4 : Option yV} {wx5 : Option yV} (h1 : -2147483648 ≤ x1 ∧ x1 < 2147483648) (kt : (ld M 92 17) ≥ x1 → XW kX12_fills d none (wQv Q) 324 [some (.inr (.inr 92)), some (.inl x1), some (.inl x2), wx3, wx4, wx5] [] M) (kf : (ld M 92 17) < x1 → XW kX12_fills d none (wQv Q) 141 [some (.inr (.inr 92)), some (.inl x1), some (.inl x2), wx3, wx4, wx5] [] M) : XW kX12_fills d none (wQv Q) 133 [some (.inr (.inr 92)), some (.inl x1), some (.inl x2), wx3, wx4, wx5] [] M := by
  refine x_aload_n rfl rfl ?_
  refine x_getI rfl sh92 rfl ?_
  refine x_iload_n rfl rfl ?_
  exact x_icmpge rfl (rng_ld _ _ _) h1 kt kf
theorem uX12_fills_141 {d : Nat} {Q : yM → Prop} {M : yM} {x1 : Int} {x2 : Int} {wx3 : Option yV} {wx4 : Option yV} {wx5 : Option yV} (h1 : -2147483648 ≤ x2 ∧ x2 < 2147483648) (kt : x2 ≠ (ld M 92 15) → XW kX12_fills d none (wQv Q) 167 [some (.inr (.inr 92)), some (.inl x1), some (.inl x2), some (.inl (64 * (x2 + 1))), wx4, wx5] [] M) (kf : x2 = (ld M 92 15) → XW kX12_fills d none (wQv Q) 156 [some (.inr (.inr 92)), some (.inl x1), some (.inl x2), some (.inl (64 * (x2 + 1))), wx4, wx5] [] M) : XW kX12_fills d none (wQv Q) 141 [some (.inr (.inr 92)), some (.inl x1), some (.inl x2), wx3, wx4, wx5] [] M := by
  refine x_bipush 64 rfl (by decide) ?_
  refine x_iload_n rfl rfl ?_
  refine x_iconst 1 rfl (by decide) ?_
  refine x_iadd rfl ?_
  refine x_imul rfl ?_
  refine x_istore_n rfl (Nat.le_of_ble_eq_true rfl) rfl ?_
  refine x_iload_n rfl rfl ?_
  refine x_aload_n rfl rfl ?_
  refine x_getI rfl sh92 rfl ?_
  exact x_icmpne rfl h1 (rng_ld _ _ _) kt kf
theorem uX12_fills_156 {d : Nat} {Q : yM → Prop} {M : yM} {x1 : Int} {x2 : Int} {x3 : Int} {wx4 : Option yV} {wx5 : Option yV} (k : XCv d 155 [.inr (.inr 92), .inl x3] M (fun M' => XW kX12_fills (d + 1) none (wQv Q) 161 [some (.inr (.inr 92)), some (.inl x1), some (.inl x2), some (.inl x3), wx4, wx5] [] M')) : XW kX12_fills (d + 1) none (wQv Q) 156 [some (.inr (.inr 92)), some (.inl x1), some (.inl x2), some (.inl x3), wx4, wx5] [] M := by
  refine x_aload_n rfl rfl ?_
  refine x_iload_n rfl rfl ?_
  exact x_callv (args := [.inr (.inr 92), .inl x3]) rfl rfl rfl k
theorem uX12_fills_161 {d : Nat} {Q : yM → Prop} {M : yM} {x1 : Int} {x2 : Int} {x3 : Int} {wx4 : Option yV} {wx5 : Option yV} (k : XW kX12_fills d none (wQv Q) 321 [some (.inr (.inr 92)), some (.inl x1), some (.inl (x2 + (-1))), some (.inl x3), wx4, wx5] [] M) : XW kX12_fills d none (wQv Q) 161 [some (.inr (.inr 92)), some (.inl x1), some (.inl x2), some (.inl x3), wx4, wx5] [] M := by
  refine x_iinc (-1) rfl (by decide) rfl rfl ?_
  exact x_goto rfl k
theorem uX12_fills_167 {d : Nat} {Q : yM → Prop} {M : yM} {x1 : Int} {x2 : Int} {x3 : Int} {wx4 : Option yV} {wx5 : Option yV} (h1 : 0 ≤ x2 ∧ x2 < 28) (h2 : 0 ≤ x2 ∧ x2 < 28) (h3 : 0 ≤ x2 ∧ x2 < 28) (h4 : 0 ≤ ((x3 + (8 * (ld M 101 x2))) + (ld M 102 x2)) ∧ ((x3 + (8 * (ld M 101 x2))) + (ld M 102 x2)) < 2048) (k : XW kX12_fills d none (wQv Q) 202 [some (.inr (.inr 92)), some (.inl x1), some (.inl x2), some (.inl x3), some (.inl ((ld M 103 x2) + 1)), some (.inl (ld M 100 ((x3 + (8 * (ld M 101 x2))) + (ld M 102 x2))))] [] M) : XW kX12_fills d none (wQv Q) 167 [some (.inr (.inr 92)), some (.inl x1), some (.inl x2), some (.inl x3), wx4, wx5] [] M := by
  refine x_aload_n rfl rfl ?_
  refine x_getR rfl sh92 rfl ?_
  refine x_iload_n rfl rfl ?_
  refine x_iaload rfl ⟨sh103, Nat.le_of_ble_eq_true rfl⟩ h1 ?_
  refine x_iconst 1 rfl (by decide) ?_
  refine x_iadd rfl ?_
  refine x_istore rfl (Nat.le_of_ble_eq_true rfl) rfl ?_
  refine x_aload_n rfl rfl ?_
  refine x_getR rfl sh92 rfl ?_
  refine x_iload_n rfl rfl ?_
  refine x_bipush 8 rfl (by decide) ?_
  refine x_aload_n rfl rfl ?_
  refine x_getR rfl sh92 rfl ?_
  refine x_iload_n rfl rfl ?_
  refine x_iaload rfl ⟨sh101, Nat.le_of_ble_eq_true rfl⟩ h2 ?_
  refine x_imul rfl ?_
  refine x_iadd rfl ?_
  refine x_aload_n rfl rfl ?_
  refine x_getR rfl sh92 rfl ?_
  refine x_iload_n rfl rfl ?_
  refine x_iaload rfl ⟨sh102, Nat.le_of_ble_eq_true rfl⟩ h3 ?_
  refine x_iadd rfl ?_
  refine x_iaload rfl ⟨sh100, Nat.le_of_ble_eq_true rfl⟩ h4 ?_
  refine x_istore rfl (Nat.le_of_ble_eq_true rfl) rfl ?_
  exact k
theorem uX12_fills_202 {d : Nat} {Q : yM → Prop} {M : yM} {x1 : Int} {x2 : Int} {x3 : Int} {x4 : Int} {x5 : Int} (h1 : -2147483648 ≤ x4 ∧ x4 < 2147483648) (kt : x4 ≥ (ld M 92 2) → XW kX12_fills d none (wQv Q) 227 [some (.inr (.inr 92)), some (.inl x1), some (.inl x2), some (.inl x3), some (.inl x4), some (.inl x5)] [] M) (kf : x4 < (ld M 92 2) → XW kX12_fills d none (wQv Q) 211 [some (.inr (.inr 92)), some (.inl x1), some (.inl x2), some (.inl x3), some (.inl x4), some (.inl x5)] [] M) : XW kX12_fills d none (wQv Q) 202 [some (.inr (.inr 92)), some (.inl x1), some (.inl x2), some (.inl x3), some (.inl x4), some (.inl x5)] [] M := by
  refine x_iload rfl rfl ?_
  refine x_aload_n rfl rfl ?_
  refine x_getI rfl sh92 rfl ?_
  exact x_icmpge rfl h1 (rng_ld _ _ _) kt kf
theorem uX12_fills_211 {d : Nat} {Q : yM → Prop} {M : yM} {x1 : Int} {x2 : Int} {x3 : Int} {x4 : Int} {x5 : Int} (kt : (yand (yshr x5 x4) 1) ≠ 0 → XW kX12_fills d none (wQv Q) 227 [some (.inr (.inr 92)), some (.inl x1), some (.inl x2), some (.inl x3), some (.inl x4), some (.inl x5)] [] M) (kf : (yand (yshr x5 x4) 1) = 0 → XW kX12_fills d none (wQv Q) 221 [some (.inr (.inr 92)), some (.inl x1), some (.inl x2), some (.inl x3), some (.inl x4), some (.inl x5)] [] M) : XW kX12_fills d none (wQv Q) 211 [some (.inr (.inr 92)), some (.inl x1), some (.inl x2), some (.inl x3), some (.inl x4), some (.inl x5)] [] M := by
  refine x_iload rfl rfl ?_
  refine x_iload rfl rfl ?_
  refine x_ishr rfl ?_
  refine x_iconst 1 rfl (by decide) ?_
  refine x_iand rfl ?_
  exact x_ifne rfl (rng_yand _ _) kt kf
theorem uX12_fills_221 {d : Nat} {Q : yM → Prop} {M : yM} {x1 : Int} {x2 : Int} {x3 : Int} {x4 : Int} {x5 : Int} (k : XW kX12_fills d none (wQv Q) 202 [some (.inr (.inr 92)), some (.inl x1), some (.inl x2), some (.inl x3), some (.inl (x4 + 1)), some (.inl x5)] [] M) : XW kX12_fills d none (wQv Q) 221 [some (.inr (.inr 92)), some (.inl x1), some (.inl x2), some (.inl x3), some (.inl x4), some (.inl x5)] [] M := by
  refine x_iinc 1 rfl (by decide) rfl rfl ?_
  exact x_goto rfl k
theorem uX12_fills_227 {d : Nat} {Q : yM → Prop} {M : yM} {x1 : Int} {x2 : Int} {x3 : Int} {x4 : Int} {x5 : Int} (h1 : 0 ≤ x2 ∧ x2 < 28) (k : ∀ M', M' = (put M 103 x2 x4) → XW kX12_fills d none (wQv Q) 235 [some (.inr (.inr 92)), some (.inl x1), some (.inl x2), some (.inl x3), some (.inl x4), some (.inl x5)] [] M') : XW kX12_fills d none (wQv Q) 227 [some (.inr (.inr 92)), some (.inl x1), some (.inl x2), some (.inl x3), some (.inl x4), some (.inl x5)] [] M := by
  refine x_aload_n rfl rfl ?_
  refine x_getR rfl sh92 rfl ?_
  refine x_iload_n rfl rfl ?_
  refine x_iload rfl rfl ?_
  refine x_iastore rfl ⟨sh103, Nat.le_of_ble_eq_true rfl⟩ h1  ?_
  exact k _ rfl
theorem uX12_fills_235 {d : Nat} {Q : yM → Prop} {M : yM} {x1 : Int} {x2 : Int} {x3 : Int} {x4 : Int} {x5 : Int} (h1 : -2147483648 ≤ x4 ∧ x4 < 2147483648) (kt : x4 ≠ (ld M 92 2) → XW kX12_fills d none (wQv Q) 250 [some (.inr (.inr 92)), some (.inl x1), some (.inl x2), some (.inl x3), some (.inl x4), some (.inl x5)] [] M) (kf : x4 = (ld M 92 2) → XW kX12_fills d none (wQv Q) 244 [some (.inr (.inr 92)), some (.inl x1), some (.inl x2), some (.inl x3), some (.inl x4), some (.inl x5)] [] M) : XW kX12_fills d none (wQv Q) 235 [some (.inr (.inr 92)), some (.inl x1), some (.inl x2), some (.inl x3), some (.inl x4), some (.inl x5)] [] M := by
  refine x_iload rfl rfl ?_
  refine x_aload_n rfl rfl ?_
  refine x_getI rfl sh92 rfl ?_
  exact x_icmpne rfl h1 (rng_ld _ _ _) kt kf
theorem uX12_fills_244 {d : Nat} {Q : yM → Prop} {M : yM} {x1 : Int} {x2 : Int} {x3 : Int} {x4 : Int} {x5 : Int} (k : XW kX12_fills d none (wQv Q) 321 [some (.inr (.inr 92)), some (.inl x1), some (.inl (x2 + (-1))), some (.inl x3), some (.inl x4), some (.inl x5)] [] M) : XW kX12_fills d none (wQv Q) 244 [some (.inr (.inr 92)), some (.inl x1), some (.inl x2), some (.inl x3), some (.inl x4), some (.inl x5)] [] M := by
  refine x_iinc (-1) rfl (by decide) rfl rfl ?_
  exact x_goto rfl k
theorem uX12_fills_250 {d : Nat} {Q : yM → Prop} {M : yM} {x1 : Int} {x2 : Int} {x3 : Int} {x4 : Int} {x5 : Int} (k : XCv d 146 [.inr (.inr 92), .inl x3, .inl (x3 + 64)] M (fun M' => XW kX12_fills (d + 1) none (wQv Q) 259 [some (.inr (.inr 92)), some (.inl x1), some (.inl x2), some (.inl x3), some (.inl x4), some (.inl x5)] [] M')) : XW kX12_fills (d + 1) none (wQv Q) 250 [some (.inr (.inr 92)), some (.inl x1), some (.inl x2), some (.inl x3), some (.inl x4), some (.inl x5)] [] M := by
  refine x_aload_n rfl rfl ?_
  refine x_iload_n rfl rfl ?_
  refine x_iload_n rfl rfl ?_
  refine x_bipush 64 rfl (by decide) ?_
  refine x_iadd rfl ?_
  exact x_callv (args := [.inr (.inr 92), .inl x3, .inl (x3 + 64)]) rfl rfl rfl k
theorem uX12_fills_259 {d : Nat} {Q : yM → Prop} {M : yM} {x1 : Int} {x2 : Int} {x3 : Int} {x4 : Int} {x5 : Int} (h1 : 0 ≤ x2 ∧ x2 < 28) (h2 : 0 ≤ x2 ∧ x2 < 28) (k : XCv d 144 [.inr (.inr 92), .inl (x3 + 64), .inl (ld M 101 x2), .inl (ld M 102 x2), .inl (yshl 1 x4)] M (fun M' => XW kX12_fills (d + 1) none (wQv Q) 283 [some (.inr (.inr 92)), some (.inl x1), some (.inl x2), some (.inl x3), some (.inl x4), some (.inl x5)] [] M')) : XW kX12_fills (d + 1) none (wQv Q) 259 [some (.inr (.inr 92)), some (.inl x1), some (.inl x2), some (.inl x3), some (.inl x4), some (.inl x5)] [] M := by
  refine x_aload_n rfl rfl ?_
  refine x_iload_n rfl rfl ?_
  refine x_bipush 64 rfl (by decide) ?_
  refine x_iadd rfl ?_
  refine x_aload_n rfl rfl ?_
  refine x_getR rfl sh92 rfl ?_
  refine x_iload_n rfl rfl ?_
  refine x_iaload rfl ⟨sh101, Nat.le_of_ble_eq_true rfl⟩ h1 ?_
  refine x_aload_n rfl rfl ?_
  refine x_getR rfl sh92 rfl ?_
  refine x_iload_n rfl rfl ?_
  refine x_iaload rfl ⟨sh102, Nat.le_of_ble_eq_true rfl⟩ h2 ?_
  refine x_iconst 1 rfl (by decide) ?_
  refine x_iload rfl rfl ?_
  refine x_ishl rfl ?_
  exact x_callv (args := [.inr (.inr 92), .inl (x3 + 64), .inl (ld M 101 x2), .inl (ld M 102 x2), .inl (yshl 1 x4)]) rfl rfl rfl k
theorem uX12_fills_283 {d : Nat} {Q : yM → Prop} {M : yM} {x1 : Int} {x2 : Int} {x3 : Int} {x4 : Int} {x5 : Int} (k : XCl d 149 [.inr (.inr 92), .inl (x3 + 64)] M (fun v M' => XW kX12_fills (d + 1) none (wQv Q) 291 [some (.inr (.inr 92)), some (.inl x1), some (.inl x2), some (.inl x3), some (.inl x4), some (.inl x5)] [.inr (.inl v)] M')) : XW kX12_fills (d + 1) none (wQv Q) 283 [some (.inr (.inr 92)), some (.inl x1), some (.inl x2), some (.inl x3), some (.inl x4), some (.inl x5)] [] M := by
  refine x_aload_n rfl rfl ?_
  refine x_iload_n rfl rfl ?_
  refine x_bipush 64 rfl (by decide) ?_
  refine x_iadd rfl ?_
  exact x_calll (args := [.inr (.inr 92), .inl (x3 + 64)]) rfl rfl rfl k
theorem uX12_fills_291 {d : Nat} {Q : yM → Prop} {M : yM} {x1 : Int} {x2 : Int} {x3 : Int} {x4 : Int} {x5 : Int} {s0 : Int} (k : XCi d 147 [.inr (.inr 92), .inl (x3 + 64)] M (fun v M' => XW kX12_fills (d + 1) none (wQv Q) 300 [some (.inr (.inr 92)), some (.inl x1), some (.inl x2), some (.inl x3), some (.inl x4), some (.inl x5)] [.inl v] M')) : XW kX12_fills (d + 1) none (wQv Q) 291 [some (.inr (.inr 92)), some (.inl x1), some (.inl x2), some (.inl x3), some (.inl x4), some (.inl x5)] [.inr (.inl s0)] M := by
  refine x_pop2 rfl ?_
  refine x_aload_n rfl rfl ?_
  refine x_iload_n rfl rfl ?_
  refine x_bipush 64 rfl (by decide) ?_
  refine x_iadd rfl ?_
  exact x_calli (args := [.inr (.inr 92), .inl (x3 + 64)]) rfl rfl rfl k
theorem uX12_fills_300 {d : Nat} {Q : yM → Prop} {M : yM} {x1 : Int} {x2 : Int} {x3 : Int} {x4 : Int} {x5 : Int} {s0 : Int} (h1 : -2147483648 ≤ s0 ∧ s0 < 2147483648) (kt : s0 ≠ 0 → XW kX12_fills d none (wQv Q) 321 [some (.inr (.inr 92)), some (.inl x1), some (.inl x2), some (.inl x3), some (.inl x4), some (.inl x5)] [] M) (kf : s0 = 0 → XW kX12_fills d none (wQv Q) 303 [some (.inr (.inr 92)), some (.inl x1), some (.inl x2), some (.inl x3), some (.inl x4), some (.inl x5)] [] M) : XW kX12_fills d none (wQv Q) 300 [some (.inr (.inr 92)), some (.inl x1), some (.inl x2), some (.inl x3), some (.inl x4), some (.inl x5)] [.inl s0] M := by
  exact x_ifne rfl h1 kt kf
theorem uX12_fills_303 {d : Nat} {Q : yM → Prop} {M : yM} {x1 : Int} {x2 : Int} {x3 : Int} {x4 : Int} {x5 : Int} (h1 : -2147483648 ≤ (x2 + 1) ∧ (x2 + 1) < 2147483648) (kt : (x2 + 1) ≥ (ld M 92 15) → XW kX12_fills d none (wQv Q) 321 [some (.inr (.inr 92)), some (.inl x1), some (.inl (x2 + 1)), some (.inl x3), some (.inl x4), some (.inl x5)] [] M) (kf : (x2 + 1) < (ld M 92 15) → XW kX12_fills d none (wQv Q) 314 [some (.inr (.inr 92)), some (.inl x1), some (.inl (x2 + 1)), some (.inl x3), some (.inl x4), some (.inl x5)] [] M) : XW kX12_fills d none (wQv Q) 303 [some (.inr (.inr 92)), some (.inl x1), some (.inl x2), some (.inl x3), some (.inl x4), some (.inl x5)] [] M := by
  refine x_iinc 1 rfl (by decide) rfl rfl ?_
  refine x_iload_n rfl rfl ?_
  refine x_aload_n rfl rfl ?_
  refine x_getI rfl sh92 rfl ?_
  exact x_icmpge rfl h1 (rng_ld _ _ _) kt kf
theorem uX12_fills_314 {d : Nat} {Q : yM → Prop} {M : yM} {x1 : Int} {x2 : Int} {x3 : Int} {x4 : Int} {x5 : Int} (h1 : 0 ≤ x2 ∧ x2 < 28) (k : ∀ M', M' = (put M 103 x2 (-1)) → XW kX12_fills d none (wQv Q) 321 [some (.inr (.inr 92)), some (.inl x1), some (.inl x2), some (.inl x3), some (.inl x4), some (.inl x5)] [] M') : XW kX12_fills d none (wQv Q) 314 [some (.inr (.inr 92)), some (.inl x1), some (.inl x2), some (.inl x3), some (.inl x4), some (.inl x5)] [] M := by
  refine x_aload_n rfl rfl ?_
  refine x_getR rfl sh92 rfl ?_
  refine x_iload_n rfl rfl ?_
  refine x_iconst (-1) rfl (by decide) ?_
  refine x_iastore rfl ⟨sh103, Nat.le_of_ble_eq_true rfl⟩ h1  ?_
  exact k _ rfl
theorem uX12_fills_321 {d : Nat} {Q : yM → Prop} {M : yM} {x1 : Int} {x2 : Int} {x3 : Int} {wx4 : Option yV} {wx5 : Option yV} (k : XW kX12_fills d none (wQv Q) 129 [some (.inr (.inr 92)), some (.inl x1), some (.inl x2), some (.inl x3), wx4, wx5] [] M) : XW kX12_fills d none (wQv Q) 321 [some (.inr (.inr 92)), some (.inl x1), some (.inl x2), some (.inl x3), wx4, wx5] [] M := by
  exact x_goto rfl k
theorem uX12_fills_324 {d : Nat} {Q : yM → Prop} {M : yM} {x1 : Int} {x2 : Int} {wx3 : Option yV} {wx4 : Option yV} {wx5 : Option yV} (k : Q M) : XW kX12_fills d none (wQv Q) 324 [some (.inr (.inr 92)), some (.inl x1), some (.inl x2), wx3, wx4, wx5] [] M := by
  exact x_return rfl k
theorem eX12_takes {d : Nat} {Q : yM → Prop} {M : yM} {x1 : Int}  (h : XW kX12_takes d none (wQv Q) 0 [some (.inr (.inr 92)), some (.inl x1), none, none, none, none] [] M) : XCv d 155 [.inr (.inr 92), .inl x1] M Q :=
  XC.ofW (Mm := (yX12_takes, cX12_takes, 6, none, 13, kX12_takes)) rfl (rcv_ok sh92) rfl rfl h
theorem uX12_takes_0 {d : Nat} {Q : yM → Prop} {M : yM} {x1 : Int} (k : XW kX12_takes d none (wQv Q) 2 [some (.inr (.inr 92)), some (.inl x1), some (.inl 0), none, none, none] [] M) : XW kX12_takes d none (wQv Q) 0 [some (.inr (.inr 92)), some (.inl x1), none, none, none, none] [] M := by
  refine x_iconst 0 rfl (by decide) ?_
  refine x_istore_n rfl (Nat.le_of_ble_eq_true rfl) rfl ?_
  exact k
theorem uX12_takes_2 {d : Nat} {Q : yM → Prop} {M : yM} {x1 : Int} {x2 : Int} {wx3 : Option yV} {wx4 : Option yV} {wx5 : Option yV} (h1 : -2147483648 ≤ x2 ∧ x2 < 2147483648) (kt : x2 ≥ (ld M 92 11) → XW kX12_takes d none (wQv Q) 115 [some (.inr (.inr 92)), some (.inl x1), some (.inl x2), wx3, wx4, wx5] [] M) (kf : x2 < (ld M 92 11) → XW kX12_takes d none (wQv Q) 10 [some (.inr (.inr 92)), some (.inl x1), some (.inl x2), wx3, wx4, wx5] [] M) : XW kX12_takes d none (wQv Q) 2 [some (.inr (.inr 92)), some (.inl x1), some (.inl x2), wx3, wx4, wx5] [] M := by
  refine x_iload_n rfl rfl ?_
  refine x_aload_n rfl rfl ?_
  refine x_getI rfl sh92 rfl ?_
  exact x_icmpge rfl h1 (rng_ld _ _ _) kt kf
theorem uX12_takes_10 {d : Nat} {Q : yM → Prop} {M : yM} {x1 : Int} {x2 : Int} {wx3 : Option yV} {wx4 : Option yV} {wx5 : Option yV} (k : XW kX12_takes d none (wQv Q) 12 [some (.inr (.inr 92)), some (.inl x1), some (.inl x2), some (.inl 0), wx4, wx5] [] M) : XW kX12_takes d none (wQv Q) 10 [some (.inr (.inr 92)), some (.inl x1), some (.inl x2), wx3, wx4, wx5] [] M := by
  refine x_iconst 0 rfl (by decide) ?_
  refine x_istore_n rfl (Nat.le_of_ble_eq_true rfl) rfl ?_
  exact k
theorem uX12_takes_12 {d : Nat} {Q : yM → Prop} {M : yM} {x1 : Int} {x2 : Int} {x3 : Int} {wx4 : Option yV} {wx5 : Option yV} (h1 : -2147483648 ≤ x3 ∧ x3 < 2147483648) (kt : x3 ≥ (ld M 92 11) → XW kX12_takes d none (wQv Q) 109 [some (.inr (.inr 92)), some (.inl x1), some (.inl x2), some (.inl x3), wx4, wx5] [] M) (kf : x3 < (ld M 92 11) → XW kX12_takes d none (wQv Q) 20 [some (.inr (.inr 92)), some (.inl x1), some (.inl x2), some (.inl x3), wx4, wx5] [] M) : XW kX12_takes d none (wQv Q) 12 [some (.inr (.inr 92)), some (.inl x1), some (.inl x2), some (.inl x3), wx4, wx5] [] M := by
  refine x_iload_n rfl rfl ?_
  refine x_aload_n rfl rfl ?_
  refine x_getI rfl sh92 rfl ?_
  exact x_icmpge rfl h1 (rng_ld _ _ _) kt kf
theorem uX12_takes_20 {d : Nat} {Q : yM → Prop} {M : yM} {x1 : Int} {x2 : Int} {x3 : Int} {wx4 : Option yV} {wx5 : Option yV} (h1 : 0 ≤ ((x1 + (8 * x2)) + x3) ∧ ((x1 + (8 * x2)) + x3) < 2048) (k : XW kX12_takes d none (wQv Q) 38 [some (.inr (.inr 92)), some (.inl x1), some (.inl x2), some (.inl x3), some (.inl (ld M 100 ((x1 + (8 * x2)) + x3))), some (.inl 0)] [] M) : XW kX12_takes d none (wQv Q) 20 [some (.inr (.inr 92)), some (.inl x1), some (.inl x2), some (.inl x3), wx4, wx5] [] M := by
  refine x_aload_n rfl rfl ?_
  refine x_getR rfl sh92 rfl ?_
  refine x_iload_n rfl rfl ?_
  refine x_bipush 8 rfl (by decide) ?_
  refine x_iload_n rfl rfl ?_
  refine x_imul rfl ?_
  refine x_iadd rfl ?_
  refine x_iload_n rfl rfl ?_
  refine x_iadd rfl ?_
  refine x_iaload rfl ⟨sh100, Nat.le_of_ble_eq_true rfl⟩ h1 ?_
  refine x_istore rfl (Nat.le_of_ble_eq_true rfl) rfl ?_
  refine x_iconst 0 rfl (by decide) ?_
  refine x_istore rfl (Nat.le_of_ble_eq_true rfl) rfl ?_
  exact k
theorem uX12_takes_38 {d : Nat} {Q : yM → Prop} {M : yM} {x1 : Int} {x2 : Int} {x3 : Int} {x4 : Int} {x5 : Int} (h1 : -2147483648 ≤ x4 ∧ x4 < 2147483648) (kt : x4 = (yshl 1 x5) → XW kX12_takes d none (wQv Q) 53 [some (.inr (.inr 92)), some (.inl x1), some (.inl x2), some (.inl x3), some (.inl x4), some (.inl x5)] [] M) (kf : x4 ≠ (yshl 1 x5) → XW kX12_takes d none (wQv Q) 47 [some (.inr (.inr 92)), some (.inl x1), some (.inl x2), some (.inl x3), some (.inl x4), some (.inl x5)] [] M) : XW kX12_takes d none (wQv Q) 38 [some (.inr (.inr 92)), some (.inl x1), some (.inl x2), some (.inl x3), some (.inl x4), some (.inl x5)] [] M := by
  refine x_iload rfl rfl ?_
  refine x_iconst 1 rfl (by decide) ?_
  refine x_iload rfl rfl ?_
  refine x_ishl rfl ?_
  exact x_icmpeq rfl h1 (rng_yshl _ _) kt kf
theorem uX12_takes_47 {d : Nat} {Q : yM → Prop} {M : yM} {x1 : Int} {x2 : Int} {x3 : Int} {x4 : Int} {x5 : Int} (k : XW kX12_takes d none (wQv Q) 38 [some (.inr (.inr 92)), some (.inl x1), some (.inl x2), some (.inl x3), some (.inl x4), some (.inl (x5 + 1))] [] M) : XW kX12_takes d none (wQv Q) 47 [some (.inr (.inr 92)), some (.inl x1), some (.inl x2), some (.inl x3), some (.inl x4), some (.inl x5)] [] M := by
  refine x_iinc 1 rfl (by decide) rfl rfl ?_
  exact x_goto rfl k
theorem uX12_takes_53 {d : Nat} {Q : yM → Prop} {M : yM} {x1 : Int} {x2 : Int} {x3 : Int} {x4 : Int} {x5 : Int} (kt : (ld M 92 17) ≠ 0 → XW kX12_takes d none (wQv Q) 75 [some (.inr (.inr 92)), some (.inl x1), some (.inl x2), some (.inl x3), some (.inl x4), some (.inl x5)] [.inl ((8 * x2) + x3), .inr (.inr 104)] M) (kf : (ld M 92 17) = 0 → XW kX12_takes d none (wQv Q) 70 [some (.inr (.inr 92)), some (.inl x1), some (.inl x2), some (.inl x3), some (.inl x4), some (.inl x5)] [.inl ((8 * x2) + x3), .inr (.inr 104)] M) : XW kX12_takes d none (wQv Q) 53 [some (.inr (.inr 92)), some (.inl x1), some (.inl x2), some (.inl x3), some (.inl x4), some (.inl x5)] [] M := by
  refine x_aload_n rfl rfl ?_
  refine x_getR rfl sh92 rfl ?_
  refine x_bipush 8 rfl (by decide) ?_
  refine x_iload_n rfl rfl ?_
  refine x_imul rfl ?_
  refine x_iload_n rfl rfl ?_
  refine x_iadd rfl ?_
  refine x_aload_n rfl rfl ?_
  refine x_getI rfl sh92 rfl ?_
  exact x_ifne rfl (rng_ld _ _ _) kt kf
theorem uX12_takes_70 {d : Nat} {Q : yM → Prop} {M : yM} {x1 : Int} {x2 : Int} {x3 : Int} {x4 : Int} {x5 : Int} {s0 : Int} (k : XW kX12_takes d none (wQv Q) 86 [some (.inr (.inr 92)), some (.inl x1), some (.inl x2), some (.inl x3), some (.inl x4), some (.inl x5)] [.inl x5, .inl s0, .inr (.inr 104)] M) : XW kX12_takes d none (wQv Q) 70 [some (.inr (.inr 92)), some (.inl x1), some (.inl x2), some (.inl x3), some (.inl x4), some (.inl x5)] [.inl s0, .inr (.inr 104)] M := by
  refine x_iload rfl rfl ?_
  exact x_goto rfl k
theorem uX12_takes_75 {d : Nat} {Q : yM → Prop} {M : yM} {x1 : Int} {x2 : Int} {x3 : Int} {x4 : Int} {x5 : Int} {s0 : Int} (h1 : 0 ≤ ((8 * x2) + x3) ∧ ((8 * x2) + x3) < 64) (k : XW kX12_takes d none (wQv Q) 86 [some (.inr (.inr 92)), some (.inl x1), some (.inl x2), some (.inl x3), some (.inl x4), some (.inl x5)] [.inl (ld M 104 ((8 * x2) + x3)), .inl s0, .inr (.inr 104)] M) : XW kX12_takes d none (wQv Q) 75 [some (.inr (.inr 92)), some (.inl x1), some (.inl x2), some (.inl x3), some (.inl x4), some (.inl x5)] [.inl s0, .inr (.inr 104)] M := by
  refine x_aload_n rfl rfl ?_
  refine x_getR rfl sh92 rfl ?_
  refine x_bipush 8 rfl (by decide) ?_
  refine x_iload_n rfl rfl ?_
  refine x_imul rfl ?_
  refine x_iload_n rfl rfl ?_
  refine x_iadd rfl ?_
  refine x_iaload rfl ⟨sh104, Nat.le_of_ble_eq_true rfl⟩ h1 ?_
  exact k
theorem uX12_takes_86 {d : Nat} {Q : yM → Prop} {M : yM} {x1 : Int} {x2 : Int} {x3 : Int} {x4 : Int} {x5 : Int} {s0 : Int} {s1 : Int} (h1 : 0 ≤ s1 ∧ s1 < 64) (k : ∀ M', M' = (put M 104 s1 s0) → XW kX12_takes d none (wQv Q) 87 [some (.inr (.inr 92)), some (.inl x1), some (.inl x2), some (.inl x3), some (.inl x4), some (.inl x5)] [] M') : XW kX12_takes d none (wQv Q) 86 [some (.inr (.inr 92)), some (.inl x1), some (.inl x2), some (.inl x3), some (.inl x4), some (.inl x5)] [.inl s0, .inl s1, .inr (.inr 104)] M := by
  refine x_iastore rfl ⟨sh104, Nat.le_of_ble_eq_true rfl⟩ h1  ?_
  exact k _ rfl
theorem uX12_takes_87 {d : Nat} {Q : yM → Prop} {M : yM} {x1 : Int} {x2 : Int} {x3 : Int} {x4 : Int} {x5 : Int} (h1 : 0 ≤ ((8 * x2) + x3) ∧ ((8 * x2) + x3) < 64) (h2 : 0 ≤ ((8 * x2) + x3) ∧ ((8 * x2) + x3) < 64) (k : ∀ M', M' = (put M 105 ((8 * x2) + x3) (yor (ld M 105 ((8 * x2) + x3)) x4)) → XW kX12_takes d none (wQv Q) 103 [some (.inr (.inr 92)), some (.inl x1), some (.inl x2), some (.inl x3), some (.inl x4), some (.inl x5)] [] M') : XW kX12_takes d none (wQv Q) 87 [some (.inr (.inr 92)), some (.inl x1), some (.inl x2), some (.inl x3), some (.inl x4), some (.inl x5)] [] M := by
  refine x_aload_n rfl rfl ?_
  refine x_getR rfl sh92 rfl ?_
  refine x_bipush 8 rfl (by decide) ?_
  refine x_iload_n rfl rfl ?_
  refine x_imul rfl ?_
  refine x_iload_n rfl rfl ?_
  refine x_iadd rfl ?_
  refine x_dup2 rfl ?_
  refine x_iaload rfl ⟨sh105, Nat.le_of_ble_eq_true rfl⟩ h1 ?_
  refine x_iload rfl rfl ?_
  refine x_ior rfl ?_
  refine x_iastore rfl ⟨sh105, Nat.le_of_ble_eq_true rfl⟩ h2  ?_
  exact k _ rfl
theorem uX12_takes_103 {d : Nat} {Q : yM → Prop} {M : yM} {x1 : Int} {x2 : Int} {x3 : Int} {x4 : Int} {x5 : Int} (k : XW kX12_takes d none (wQv Q) 12 [some (.inr (.inr 92)), some (.inl x1), some (.inl x2), some (.inl (x3 + 1)), some (.inl x4), some (.inl x5)] [] M) : XW kX12_takes d none (wQv Q) 103 [some (.inr (.inr 92)), some (.inl x1), some (.inl x2), some (.inl x3), some (.inl x4), some (.inl x5)] [] M := by
  refine x_iinc 1 rfl (by decide) rfl rfl ?_
  exact x_goto rfl k
theorem uX12_takes_109 {d : Nat} {Q : yM → Prop} {M : yM} {x1 : Int} {x2 : Int} {x3 : Int} {wx4 : Option yV} {wx5 : Option yV} (k : XW kX12_takes d none (wQv Q) 2 [some (.inr (.inr 92)), some (.inl x1), some (.inl (x2 + 1)), some (.inl x3), wx4, wx5] [] M) : XW kX12_takes d none (wQv Q) 109 [some (.inr (.inr 92)), some (.inl x1), some (.inl x2), some (.inl x3), wx4, wx5] [] M := by
  refine x_iinc 1 rfl (by decide) rfl rfl ?_
  exact x_goto rfl k
theorem uX12_takes_115 {d : Nat} {Q : yM → Prop} {M : yM} {x1 : Int} {x2 : Int} {wx3 : Option yV} {wx4 : Option yV} {wx5 : Option yV} (k : ∀ M', M' = (put M 92 17 ((ld M 92 17) + 1)) → XW kX12_takes d none (wQv Q) 125 [some (.inr (.inr 92)), some (.inl x1), some (.inl x2), wx3, wx4, wx5] [] M') : XW kX12_takes d none (wQv Q) 115 [some (.inr (.inr 92)), some (.inl x1), some (.inl x2), wx3, wx4, wx5] [] M := by
  refine x_aload_n rfl rfl ?_
  refine x_dupa rfl ?_
  refine x_getI rfl sh92 rfl ?_
  refine x_iconst 1 rfl (by decide) ?_
  refine x_iadd rfl ?_
  refine x_putI rfl rfl sh92 rfl ?_
  exact k _ rfl
theorem uX12_takes_125 {d : Nat} {Q : yM → Prop} {M : yM} {x1 : Int} {x2 : Int} {wx3 : Option yV} {wx4 : Option yV} {wx5 : Option yV} (k : Q M) : XW kX12_takes d none (wQv Q) 125 [some (.inr (.inr 92)), some (.inl x1), some (.inl x2), wx3, wx4, wx5] [] M := by
  exact x_return rfl k
