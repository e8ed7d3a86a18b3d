theorem eX12_carried {d : Nat} {Q : Int → yM → Prop} {M : yM} {x1 : Int} {x2 : Int}  (h : XW kX12_carried d (some .int) (wQi Q) 0 [some (.inr (.inr 92)), some (.inl x1), some (.inl x2), none, none, none, none, none, none] [] M) : XCi d 176 [.inr (.inr 92), .inl x1, .inl x2] M Q :=
  XC.ofW (Mm := (yX12_carried, cX12_carried, 9, (some .int), 13, kX12_carried)) rfl (rcv_ok sh92) rfl rfl h
theorem uX12_carried_0 {d : Nat} {Q : Int → yM → Prop} {M : yM} {x1 : Int} {x2 : Int} (k : ∀ M', M' = (put M 92 0 0) → XW kX12_carried d (some .int) (wQi Q) 5 [some (.inr (.inr 92)), some (.inl x1), some (.inl x2), none, none, none, none, none, none] [] M') : XW kX12_carried d (some .int) (wQi Q) 0 [some (.inr (.inr 92)), some (.inl x1), some (.inl x2), none, none, none, none, none, none] [] M := by
  refine x_aload_n rfl rfl ?_
  refine x_iconst 0 rfl (by decide) ?_
  refine x_putI rfl rfl sh92 rfl ?_
  exact k _ rfl
theorem uX12_carried_5 {d : Nat} {Q : Int → yM → Prop} {M : yM} {x1 : Int} {x2 : Int} (k : XCi d 120 [.inl x1, .inl 1, .inl 5] M (fun v M' => XW kX12_carried (d + 1) (some .int) (wQi Q) 11 [some (.inr (.inr 92)), some (.inl x1), some (.inl x2), none, none, none, none, none, none] [.inl v] M')) : XW kX12_carried (d + 1) (some .int) (wQi Q) 5 [some (.inr (.inr 92)), some (.inl x1), some (.inl x2), none, none, none, none, none, none] [] M := by
  refine x_iload_n rfl rfl ?_
  refine x_iconst 1 rfl (by decide) ?_
  refine x_iconst 5 rfl (by decide) ?_
  exact x_calli (args := [.inl x1, .inl 1, .inl 5]) rfl rfl rfl k
theorem uX12_carried_11 {d : Nat} {Q : Int → yM → Prop} {M : yM} {x1 : Int} {x2 : Int} {s0 : Int} (h1 : -2147483648 ≤ s0 ∧ s0 < 2147483648) (kt : s0 = 0 → XW kX12_carried d (some .int) (wQi Q) 23 [some (.inr (.inr 92)), some (.inl x1), some (.inl x2), none, none, none, none, none, none] [] M) (kf : s0 ≠ 0 → XW kX12_carried d (some .int) (wQi Q) 14 [some (.inr (.inr 92)), some (.inl x1), some (.inl x2), none, none, none, none, none, none] [] M) : XW kX12_carried d (some .int) (wQi Q) 11 [some (.inr (.inr 92)), some (.inl x1), some (.inl x2), none, none, none, none, none, none] [.inl s0] M := by
  exact x_ifeq rfl h1 kt kf
theorem uX12_carried_14 {d : Nat} {Q : Int → yM → Prop} {M : yM} {x1 : Int} {x2 : Int} (k : XCi d 120 [.inl x2, .inl 0, .inl 1] M (fun v M' => XW kX12_carried (d + 1) (some .int) (wQi Q) 20 [some (.inr (.inr 92)), some (.inl x1), some (.inl x2), none, none, none, none, none, none] [.inl v] M')) : XW kX12_carried (d + 1) (some .int) (wQi Q) 14 [some (.inr (.inr 92)), some (.inl x1), some (.inl x2), none, none, none, none, none, none] [] M := by
  refine x_iload_n rfl rfl ?_
  refine x_iconst 0 rfl (by decide) ?_
  refine x_iconst 1 rfl (by decide) ?_
  exact x_calli (args := [.inl x2, .inl 0, .inl 1]) rfl rfl rfl k
theorem uX12_carried_20 {d : Nat} {Q : Int → yM → Prop} {M : yM} {x1 : Int} {x2 : Int} {s0 : Int} (h1 : -2147483648 ≤ s0 ∧ s0 < 2147483648) (kt : s0 ≠ 0 → XW kX12_carried d (some .int) (wQi Q) 25 [some (.inr (.inr 92)), some (.inl x1), some (.inl x2), none, none, none, none, none, none] [] M) (kf : s0 = 0 → XW kX12_carried d (some .int) (wQi Q) 23 [some (.inr (.inr 92)), some (.inl x1), some (.inl x2), none, none, none, none, none, none] [] M) : XW kX12_carried d (some .int) (wQi Q) 20 [some (.inr (.inr 92)), some (.inl x1), some (.inl x2), none, none, none, none, none, none] [.inl s0] M := by
  exact x_ifne rfl h1 kt kf
theorem uX12_carried_23 {d : Nat} {Q : Int → yM → Prop} {M : yM} {x1 : Int} {x2 : Int} (k : Q (-1) M) : XW kX12_carried d (some .int) (wQi Q) 23 [some (.inr (.inr 92)), some (.inl x1), some (.inl x2), none, none, none, none, none, none] [] M := by
  refine x_iconst (-1) rfl (by decide) ?_
  exact x_ireturn rfl k
theorem uX12_carried_25 {d : Nat} {Q : Int → yM → Prop} {M : yM} {x1 : Int} {x2 : Int} (k : XW kX12_carried d (some .int) (wQi Q) 30 [some (.inr (.inr 92)), some (.inl x1), some (.inl x2), some (.inl 0), some (.inl 0), none, none, none, none] [] M) : XW kX12_carried d (some .int) (wQi Q) 25 [some (.inr (.inr 92)), some (.inl x1), some (.inl x2), none, none, none, none, none, none] [] M := by
  refine x_iconst 0 rfl (by decide) ?_
  refine x_istore_n rfl (Nat.le_of_ble_eq_true rfl) rfl ?_
  refine x_iconst 0 rfl (by decide) ?_
  refine x_istore rfl (Nat.le_of_ble_eq_true rfl) rfl ?_
  exact k
theorem uX12_carried_30 {d : Nat} {Q : Int → yM → Prop} {M : yM} {x1 : Int} {x2 : Int} {x3 : Int} {x4 : Int} {wx5 : Option yV} (h1 : -2147483648 ≤ x4 ∧ x4 < 2147483648) (h2 : -2147483648 ≤ x1 ∧ x1 < 2147483648) (kt : x4 ≥ x1 → XW kX12_carried d (some .int) (wQi Q) 79 [some (.inr (.inr 92)), some (.inl x1), some (.inl x2), some (.inl x3), some (.inl x4), wx5, none, none, none] [] M) (kf : x4 < x1 → XW kX12_carried d (some .int) (wQi Q) 36 [some (.inr (.inr 92)), some (.inl x1), some (.inl x2), some (.inl x3), some (.inl x4), wx5, none, none, none] [] M) : XW kX12_carried d (some .int) (wQi Q) 30 [some (.inr (.inr 92)), some (.inl x1), some (.inl x2), some (.inl x3), some (.inl x4), wx5, none, none, none] [] M := by
  refine x_iload rfl rfl ?_
  refine x_iload_n rfl rfl ?_
  exact x_icmpge rfl h1 h2 kt kf
theorem uX12_carried_36 {d : Nat} {Q : Int → yM → Prop} {M : yM} {x1 : Int} {x2 : Int} {x3 : Int} {x4 : Int} {wx5 : Option yV} (k : XW kX12_carried d (some .int) (wQi Q) 42 [some (.inr (.inr 92)), some (.inl x1), some (.inl x2), some (.inl x3), some (.inl x4), some (.inl (x4 + 1)), none, none, none] [] M) : XW kX12_carried d (some .int) (wQi Q) 36 [some (.inr (.inr 92)), some (.inl x1), some (.inl x2), some (.inl x3), some (.inl x4), wx5, none, none, none] [] M := by
  refine x_iload rfl rfl ?_
  refine x_iconst 1 rfl (by decide) ?_
  refine x_iadd rfl ?_
  refine x_istore rfl (Nat.le_of_ble_eq_true rfl) rfl ?_
  exact k
theorem uX12_carried_42 {d : Nat} {Q : Int → yM → Prop} {M : yM} {x1 : Int} {x2 : Int} {x3 : Int} {x4 : Int} {x5 : Int} (h1 : -2147483648 ≤ x5 ∧ x5 < 2147483648) (h2 : -2147483648 ≤ x1 ∧ x1 < 2147483648) (kt : x5 ≥ x1 → XW kX12_carried d (some .int) (wQi Q) 73 [some (.inr (.inr 92)), some (.inl x1), some (.inl x2), some (.inl x3), some (.inl x4), some (.inl x5), none, none, none] [] M) (kf : x5 < x1 → XW kX12_carried d (some .int) (wQi Q) 48 [some (.inr (.inr 92)), some (.inl x1), some (.inl x2), some (.inl x3), some (.inl x4), some (.inl x5), none, none, none] [] M) : XW kX12_carried d (some .int) (wQi Q) 42 [some (.inr (.inr 92)), some (.inl x1), some (.inl x2), some (.inl x3), some (.inl x4), some (.inl x5), none, none, none] [] M := by
  refine x_iload rfl rfl ?_
  refine x_iload_n rfl rfl ?_
  exact x_icmpge rfl h1 h2 kt kf
theorem uX12_carried_48 {d : Nat} {Q : Int → yM → Prop} {M : yM} {x1 : Int} {x2 : Int} {x3 : Int} {x4 : Int} {x5 : Int} (h1 : 0 ≤ x3 ∧ x3 < 28) (k : ∀ M', M' = (put M 101 x3 x4) → XW kX12_carried d (some .int) (wQi Q) 56 [some (.inr (.inr 92)), some (.inl x1), some (.inl x2), some (.inl x3), some (.inl x4), some (.inl x5), none, none, none] [] M') : XW kX12_carried d (some .int) (wQi Q) 48 [some (.inr (.inr 92)), some (.inl x1), some (.inl x2), some (.inl x3), some (.inl x4), some (.inl x5), none, none, none] [] M := by
  refine x_aload_n rfl rfl ?_
  refine x_getR rfl sh92 rfl ?_
  refine x_iload_n rfl rfl ?_
  refine x_iload rfl rfl ?_
  refine x_iastore rfl ⟨sh101, Nat.le_of_ble_eq_true rfl⟩ h1  ?_
  exact k _ rfl
theorem uX12_carried_56 {d : Nat} {Q : Int → yM → Prop} {M : yM} {x1 : Int} {x2 : Int} {x3 : Int} {x4 : Int} {x5 : Int} (h1 : 0 ≤ x3 ∧ x3 < 28) (k : ∀ M', M' = (put M 102 x3 x5) → XW kX12_carried d (some .int) (wQi Q) 64 [some (.inr (.inr 92)), some (.inl x1), some (.inl x2), some (.inl x3), some (.inl x4), some (.inl x5), none, none, none] [] M') : XW kX12_carried d (some .int) (wQi Q) 56 [some (.inr (.inr 92)), some (.inl x1), some (.inl x2), some (.inl x3), some (.inl x4), some (.inl x5), none, none, none] [] M := by
  refine x_aload_n rfl rfl ?_
  refine x_getR rfl sh92 rfl ?_
  refine x_iload_n rfl rfl ?_
  refine x_iload rfl rfl ?_
  refine x_iastore rfl ⟨sh102, Nat.le_of_ble_eq_true rfl⟩ h1  ?_
  exact k _ rfl
theorem uX12_carried_64 {d : Nat} {Q : Int → yM → Prop} {M : yM} {x1 : Int} {x2 : Int} {x3 : Int} {x4 : Int} {x5 : Int} (k : XW kX12_carried d (some .int) (wQi Q) 42 [some (.inr (.inr 92)), some (.inl x1), some (.inl x2), some (.inl (x3 + 1)), some (.inl x4), some (.inl (x5 + 1)), none, none, none] [] M) : XW kX12_carried d (some .int) (wQi Q) 64 [some (.inr (.inr 92)), some (.inl x1), some (.inl x2), some (.inl x3), some (.inl x4), some (.inl x5), none, none, none] [] M := by
  refine x_iinc 1 rfl (by decide) rfl rfl ?_
  refine x_iinc 1 rfl (by decide) rfl rfl ?_
  exact x_goto rfl k
theorem uX12_carried_73 {d : Nat} {Q : Int → yM → Prop} {M : yM} {x1 : Int} {x2 : Int} {x3 : Int} {x4 : Int} {x5 : Int} (k : XW kX12_carried d (some .int) (wQi Q) 30 [some (.inr (.inr 92)), some (.inl x1), some (.inl x2), some (.inl x3), some (.inl (x4 + 1)), some (.inl x5), none, none, none] [] M) : XW kX12_carried d (some .int) (wQi Q) 73 [some (.inr (.inr 92)), some (.inl x1), some (.inl x2), some (.inl x3), some (.inl x4), some (.inl x5), none, none, none] [] M := by
  refine x_iinc 1 rfl (by decide) rfl rfl ?_
  exact x_goto rfl k
theorem uX12_carried_79 {d : Nat} {Q : Int → yM → Prop} {M : yM} {x1 : Int} {x2 : Int} {x3 : Int} {x4 : Int} {wx5 : Option yV} (k : ∀ M', M' = (put M 103 0 0) → XW kX12_carried d (some .int) (wQi Q) 95 [some (.inr (.inr 92)), some (.inl x1), some (.inl x2), some (.inl x3), some (.inl 0), some (.inl 0), some (.inl 0), none, none] [] M') : XW kX12_carried d (some .int) (wQi Q) 79 [some (.inr (.inr 92)), some (.inl x1), some (.inl x2), some (.inl x3), some (.inl x4), wx5, none, none, none] [] M := by
  refine x_iconst 0 rfl (by decide) ?_
  refine x_istore rfl (Nat.le_of_ble_eq_true rfl) rfl ?_
  refine x_iconst 0 rfl (by decide) ?_
  refine x_istore rfl (Nat.le_of_ble_eq_true rfl) rfl ?_
  refine x_iconst 0 rfl (by decide) ?_
  refine x_istore rfl (Nat.le_of_ble_eq_true rfl) rfl ?_
  refine x_aload_n rfl rfl ?_
  refine x_getR rfl sh92 rfl ?_
  refine x_iconst 0 rfl (by decide) ?_
  refine x_iconst 0 rfl (by decide) ?_
  refine x_iastore rfl ⟨sh103, Nat.le_of_ble_eq_true rfl⟩ (by decide)  ?_
  exact k _ rfl
theorem uX12_carried_95 {d : Nat} {Q : Int → yM → Prop} {M : yM} {x1 : Int} {x2 : Int} {x3 : Int} {x4 : Int} {x5 : Int} {x6 : Int} {wx7 : Option yV} {wx8 : Option yV} (h1 : -2147483648 ≤ x6 ∧ x6 < 2147483648) (kt : x6 < 0 → XW kX12_carried d (some .int) (wQi Q) 264 [some (.inr (.inr 92)), some (.inl x1), some (.inl x2), some (.inl x3), some (.inl x4), some (.inl x5), some (.inl x6), wx7, wx8] [] M) (kf : x6 ≥ 0 → XW kX12_carried d (some .int) (wQi Q) 100 [some (.inr (.inr 92)), some (.inl x1), some (.inl x2), some (.inl x3), some (.inl x4), some (.inl x5), some (.inl x6), wx7, wx8] [] M) : XW kX12_carried d (some .int) (wQi Q) 95 [some (.inr (.inr 92)), some (.inl x1), some (.inl x2), some (.inl x3), some (.inl x4), some (.inl x5), some (.inl x6), wx7, wx8] [] M := by
  refine x_iload rfl rfl ?_
  exact x_iflt rfl h1 kt kf
theorem uX12_carried_100 {d : Nat} {Q : Int → yM → Prop} {M : yM} {x1 : Int} {x2 : Int} {x3 : Int} {x4 : Int} {x5 : Int} {x6 : Int} {wx7 : Option yV} {wx8 : Option yV} (h1 : -2147483648 ≤ x4 ∧ x4 < 2147483648) (kt : x4 > 20000 → XW kX12_carried d (some .int) (wQi Q) 264 [some (.inr (.inr 92)), some (.inl x1), some (.inl x2), some (.inl x3), some (.inl x4), some (.inl x5), some (.inl x6), wx7, wx8] [] M) (kf : x4 ≤ 20000 → XW kX12_carried d (some .int) (wQi Q) 108 [some (.inr (.inr 92)), some (.inl x1), some (.inl x2), some (.inl x3), some (.inl x4), some (.inl x5), some (.inl x6), wx7, wx8] [] M) : XW kX12_carried d (some .int) (wQi Q) 100 [some (.inr (.inr 92)), some (.inl x1), some (.inl x2), some (.inl x3), some (.inl x4), some (.inl x5), some (.inl x6), wx7, wx8] [] M := by
  refine x_iload rfl rfl ?_
  refine x_sipush 20000 rfl (by decide) ?_
  exact x_icmpgt rfl h1 (by decide) kt kf
theorem uX12_carried_108 {d : Nat} {Q : Int → yM → Prop} {M : yM} {x1 : Int} {x2 : Int} {x3 : Int} {x4 : Int} {x5 : Int} {x6 : Int} {wx7 : Option yV} {wx8 : Option yV} (h1 : -2147483648 ≤ x6 ∧ x6 < 2147483648) (h2 : -2147483648 ≤ x3 ∧ x3 < 2147483648) (kt : x6 ≠ x3 → XW kX12_carried d (some .int) (wQi Q) 141 [some (.inr (.inr 92)), some (.inl x1), some (.inl x2), some (.inl x3), some (.inl x4), some (.inl x5), some (.inl x6), wx7, wx8] [] M) (kf : x6 = x3 → XW kX12_carried d (some .int) (wQi Q) 114 [some (.inr (.inr 92)), some (.inl x1), some (.inl x2), some (.inl x3), some (.inl x4), some (.inl x5), some (.inl x6), wx7, wx8] [] M) : XW kX12_carried d (some .int) (wQi Q) 108 [some (.inr (.inr 92)), some (.inl x1), some (.inl x2), some (.inl x3), some (.inl x4), some (.inl x5), some (.inl x6), wx7, wx8] [] M := by
  refine x_iload rfl rfl ?_
  refine x_iload_n rfl rfl ?_
  exact x_icmpne rfl h1 h2 kt kf
theorem uX12_carried_114 {d : Nat} {Q : Int → yM → Prop} {M : yM} {x1 : Int} {x2 : Int} {x3 : Int} {x4 : Int} {x5 : Int} {x6 : Int} {wx7 : Option yV} {wx8 : Option yV} (k : XCi d 175 [.inr (.inr 92), .inl x1] M (fun v M' => XW kX12_carried (d + 1) (some .int) (wQi Q) 124 [some (.inr (.inr 92)), some (.inl x1), some (.inl x2), some (.inl x3), some (.inl (x4 + 1)), some (.inl x5), some (.inl x6), wx7, wx8] [.inl v, .inl x5] M')) : XW kX12_carried (d + 1) (some .int) (wQi Q) 114 [some (.inr (.inr 92)), some (.inl x1), some (.inl x2), some (.inl x3), some (.inl x4), some (.inl x5), some (.inl x6), wx7, wx8] [] M := by
  refine x_iinc 1 rfl (by decide) rfl rfl ?_
  refine x_iload rfl rfl ?_
  refine x_aload_n rfl rfl ?_
  refine x_iload_n rfl rfl ?_
  exact x_calli (args := [.inr (.inr 92), .inl x1]) rfl rfl rfl k
theorem uX12_carried_124 {d : Nat} {Q : Int → yM → Prop} {M : yM} {x1 : Int} {x2 : Int} {x3 : Int} {x4 : Int} {x5 : Int} {x6 : Int} {wx7 : Option yV} {wx8 : Option yV} {s0 : Int} {s1 : Int} (h1 : -2147483648 ≤ s0 ∧ s0 < 2147483648) (kt : s0 = 0 → XW kX12_carried d (some .int) (wQi Q) 131 [some (.inr (.inr 92)), some (.inl x1), some (.inl x2), some (.inl x3), some (.inl x4), some (.inl x5), some (.inl x6), wx7, wx8] [.inl s1] M) (kf : s0 ≠ 0 → XW kX12_carried d (some .int) (wQi Q) 127 [some (.inr (.inr 92)), some (.inl x1), some (.inl x2), some (.inl x3), some (.inl x4), some (.inl x5), some (.inl x6), wx7, wx8] [.inl s1] M) : XW kX12_carried d (some .int) (wQi Q) 124 [some (.inr (.inr 92)), some (.inl x1), some (.inl x2), some (.inl x3), some (.inl x4), some (.inl x5), some (.inl x6), wx7, wx8] [.inl s0, .inl s1] M := by
  exact x_ifeq rfl h1 kt kf
theorem uX12_carried_127 {d : Nat} {Q : Int → yM → Prop} {M : yM} {x1 : Int} {x2 : Int} {x3 : Int} {x4 : Int} {x5 : Int} {x6 : Int} {wx7 : Option yV} {wx8 : Option yV} {s0 : Int} (k : XW kX12_carried d (some .int) (wQi Q) 132 [some (.inr (.inr 92)), some (.inl x1), some (.inl x2), some (.inl x3), some (.inl x4), some (.inl x5), some (.inl x6), wx7, wx8] [.inl 1, .inl s0] M) : XW kX12_carried d (some .int) (wQi Q) 127 [some (.inr (.inr 92)), some (.inl x1), some (.inl x2), some (.inl x3), some (.inl x4), some (.inl x5), some (.inl x6), wx7, wx8] [.inl s0] M := by
  refine x_iconst 1 rfl (by decide) ?_
  exact x_goto rfl k
theorem uX12_carried_131 {d : Nat} {Q : Int → yM → Prop} {M : yM} {x1 : Int} {x2 : Int} {x3 : Int} {x4 : Int} {x5 : Int} {x6 : Int} {wx7 : Option yV} {wx8 : Option yV} {s0 : Int} (k : XW kX12_carried d (some .int) (wQi Q) 132 [some (.inr (.inr 92)), some (.inl x1), some (.inl x2), some (.inl x3), some (.inl x4), some (.inl x5), some (.inl x6), wx7, wx8] [.inl 0, .inl s0] M) : XW kX12_carried d (some .int) (wQi Q) 131 [some (.inr (.inr 92)), some (.inl x1), some (.inl x2), some (.inl x3), some (.inl x4), some (.inl x5), some (.inl x6), wx7, wx8] [.inl s0] M := by
  refine x_iconst 0 rfl (by decide) ?_
  exact k
theorem uX12_carried_132 {d : Nat} {Q : Int → yM → Prop} {M : yM} {x1 : Int} {x2 : Int} {x3 : Int} {x4 : Int} {x5 : Int} {x6 : Int} {wx7 : Option yV} {wx8 : Option yV} {s0 : Int} {s1 : Int} (k : XW kX12_carried d (some .int) (wQi Q) 95 [some (.inr (.inr 92)), some (.inl x1), some (.inl x2), some (.inl x3), some (.inl x4), some (.inl (s1 + s0)), some (.inl (x6 + (-1))), wx7, wx8] [] M) : XW kX12_carried d (some .int) (wQi Q) 132 [some (.inr (.inr 92)), some (.inl x1), some (.inl x2), some (.inl x3), some (.inl x4), some (.inl x5), some (.inl x6), wx7, wx8] [.inl s0, .inl s1] M := by
  refine x_iadd rfl ?_
  refine x_istore rfl (Nat.le_of_ble_eq_true rfl) rfl ?_
  refine x_iinc (-1) rfl (by decide) rfl rfl ?_
  exact x_goto rfl k
theorem uX12_carried_141 {d : Nat} {Q : Int → yM → Prop} {M : yM} {x1 : Int} {x2 : Int} {x3 : Int} {x4 : Int} {x5 : Int} {x6 : Int} {wx7 : Option yV} {wx8 : Option yV} (h1 : 0 ≤ x6 ∧ x6 < 28) (h2 : 0 ≤ x6 ∧ x6 < 28) (k : ∀ M', M' = (put M 103 x6 ((ld M 103 x6) + 1)) → XW kX12_carried d (some .int) (wQi Q) 152 [some (.inr (.inr 92)), some (.inl x1), some (.inl x2), some (.inl x3), some (.inl x4), some (.inl x5), some (.inl x6), wx7, wx8] [] M') : XW kX12_carried d (some .int) (wQi Q) 141 [some (.inr (.inr 92)), some (.inl x1), some (.inl x2), some (.inl x3), some (.inl x4), some (.inl x5), some (.inl x6), wx7, wx8] [] M := by
  refine x_aload_n rfl rfl ?_
  refine x_getR rfl sh92 rfl ?_
  refine x_iload rfl rfl ?_
  refine x_dup2 rfl ?_
  refine x_iaload rfl ⟨sh103, Nat.le_of_ble_eq_true rfl⟩ h1 ?_
  refine x_iconst 1 rfl (by decide) ?_
  refine x_iadd rfl ?_
  refine x_iastore rfl ⟨sh103, Nat.le_of_ble_eq_true rfl⟩ h2  ?_
  exact k _ rfl
theorem uX12_carried_152 {d : Nat} {Q : Int → yM → Prop} {M : yM} {x1 : Int} {x2 : Int} {x3 : Int} {x4 : Int} {x5 : Int} {x6 : Int} {wx7 : Option yV} {wx8 : Option yV} (h1 : 0 ≤ x6 ∧ x6 < 28) (kt : (ld M 103 x6) < (ld M 92 2) → XW kX12_carried d (some .int) (wQi Q) 172 [some (.inr (.inr 92)), some (.inl x1), some (.inl x2), some (.inl x3), some (.inl x4), some (.inl x5), some (.inl x6), wx7, wx8] [] M) (kf : (ld M 103 x6) ≥ (ld M 92 2) → XW kX12_carried d (some .int) (wQi Q) 166 [some (.inr (.inr 92)), some (.inl x1), some (.inl x2), some (.inl x3), some (.inl x4), some (.inl x5), some (.inl x6), wx7, wx8] [] M) : XW kX12_carried d (some .int) (wQi Q) 152 [some (.inr (.inr 92)), some (.inl x1), some (.inl x2), some (.inl x3), some (.inl x4), some (.inl x5), some (.inl x6), wx7, wx8] [] M := by
  refine x_aload_n rfl rfl ?_
  refine x_getR rfl sh92 rfl ?_
  refine x_iload rfl rfl ?_
  refine x_iaload rfl ⟨sh103, Nat.le_of_ble_eq_true rfl⟩ h1 ?_
  refine x_aload_n rfl rfl ?_
  refine x_getI rfl sh92 rfl ?_
  exact x_icmplt rfl (rng_ld _ _ _) (rng_ld _ _ _) kt kf
theorem uX12_carried_166 {d : Nat} {Q : Int → yM → Prop} {M : yM} {x1 : Int} {x2 : Int} {x3 : Int} {x4 : Int} {x5 : Int} {x6 : Int} {wx7 : Option yV} {wx8 : Option yV} (k : XW kX12_carried d (some .int) (wQi Q) 95 [some (.inr (.inr 92)), some (.inl x1), some (.inl x2), some (.inl x3), some (.inl x4), some (.inl x5), some (.inl (x6 + (-1))), wx7, wx8] [] M) : XW kX12_carried d (some .int) (wQi Q) 166 [some (.inr (.inr 92)), some (.inl x1), some (.inl x2), some (.inl x3), some (.inl x4), some (.inl x5), some (.inl x6), wx7, wx8] [] M := by
  refine x_iinc (-1) rfl (by decide) rfl rfl ?_
  exact x_goto rfl k
theorem uX12_carried_172 {d : Nat} {Q : Int → yM → Prop} {M : yM} {x1 : Int} {x2 : Int} {x3 : Int} {x4 : Int} {x5 : Int} {x6 : Int} {wx7 : Option yV} {wx8 : Option yV} (h1 : 0 ≤ x6 ∧ x6 < 28) (h2 : 0 ≤ x6 ∧ x6 < 28) (h3 : 0 ≤ x6 ∧ x6 < 28) (h4 : 0 ≤ ((5 * (ld M 101 x6)) + (ld M 102 x6)) ∧ ((5 * (ld M 101 x6)) + (ld M 102 x6)) < 25) (k : ∀ M', M' = (put M 112 ((5 * (ld M 101 x6)) + (ld M 102 x6)) (ld M 103 x6)) → XW kX12_carried d (some .int) (wQi Q) 209 [some (.inr (.inr 92)), some (.inl x1), some (.inl x2), some (.inl x3), some (.inl x4), some (.inl x5), some (.inl x6), some (.inl (ld M 101 x6)), some (.inl (ld M 102 x6))] [] M') : XW kX12_carried d (some .int) (wQi Q) 172 [some (.inr (.inr 92)), some (.inl x1), some (.inl x2), some (.inl x3), some (.inl x4), some (.inl x5), some (.inl x6), wx7, wx8] [] M := by
  refine x_aload_n rfl rfl ?_
  refine x_getR rfl sh92 rfl ?_
  refine x_iload rfl rfl ?_
  refine x_iaload rfl ⟨sh101, Nat.le_of_ble_eq_true rfl⟩ h1 ?_
  refine x_istore rfl (Nat.le_of_ble_eq_true rfl) rfl ?_
  refine x_aload_n rfl rfl ?_
  refine x_getR rfl sh92 rfl ?_
  refine x_iload rfl rfl ?_
  refine x_iaload rfl ⟨sh102, Nat.le_of_ble_eq_true rfl⟩ h2 ?_
  refine x_istore rfl (Nat.le_of_ble_eq_true rfl) rfl ?_
  refine x_aload_n rfl rfl ?_
  refine x_getR rfl sh92 rfl ?_
  refine x_iconst 5 rfl (by decide) ?_
  refine x_iload rfl rfl ?_
  refine x_imul rfl ?_
  refine x_iload rfl rfl ?_
  refine x_iadd rfl ?_
  refine x_aload_n rfl rfl ?_
  refine x_getR rfl sh92 rfl ?_
  refine x_iload rfl rfl ?_
  refine x_iaload rfl ⟨sh103, Nat.le_of_ble_eq_true rfl⟩ h3 ?_
  refine x_iastore rfl ⟨sh112, Nat.le_of_ble_eq_true rfl⟩ h4  ?_
  exact k _ rfl
theorem uX12_carried_209 {d : Nat} {Q : Int → yM → Prop} {M : yM} {x1 : Int} {x2 : Int} {x3 : Int} {x4 : Int} {x5 : Int} {x6 : Int} {x7 : Int} {x8 : Int} (h1 : 0 ≤ x6 ∧ x6 < 28) (h2 : 0 ≤ (ld M 103 x6) ∧ (ld M 103 x6) < 8) (h3 : 0 ≤ ((5 * x8) + x7) ∧ ((5 * x8) + x7) < 25) (k : ∀ M', M' = (put M 112 ((5 * x8) + x7) (ld M 93 (ld M 103 x6))) → XW kX12_carried d (some .int) (wQi Q) 233 [some (.inr (.inr 92)), some (.inl x1), some (.inl x2), some (.inl x3), some (.inl x4), some (.inl x5), some (.inl x6), some (.inl x7), some (.inl x8)] [] M') : XW kX12_carried d (some .int) (wQi Q) 209 [some (.inr (.inr 92)), some (.inl x1), some (.inl x2), some (.inl x3), some (.inl x4), some (.inl x5), some (.inl x6), some (.inl x7), some (.inl x8)] [] M := by
  refine x_aload_n rfl rfl ?_
  refine x_getR rfl sh92 rfl ?_
  refine x_iconst 5 rfl (by decide) ?_
  refine x_iload rfl rfl ?_
  refine x_imul rfl ?_
  refine x_iload rfl rfl ?_
  refine x_iadd rfl ?_
  refine x_aload_n rfl rfl ?_
  refine x_getR rfl sh92 rfl ?_
  refine x_aload_n rfl rfl ?_
  refine x_getR rfl sh92 rfl ?_
  refine x_iload rfl rfl ?_
  refine x_iaload rfl ⟨sh103, Nat.le_of_ble_eq_true rfl⟩ h1 ?_
  refine x_iaload rfl ⟨sh93, Nat.le_of_ble_eq_true rfl⟩ h2 ?_
  refine x_iastore rfl ⟨sh112, Nat.le_of_ble_eq_true rfl⟩ h3  ?_
  exact k _ rfl
theorem uX12_carried_233 {d : Nat} {Q : Int → yM → Prop} {M : yM} {x1 : Int} {x2 : Int} {x3 : Int} {x4 : Int} {x5 : Int} {x6 : Int} {x7 : Int} {x8 : Int} (k : XCi d 174 [.inr (.inr 92), .inl x7, .inl x8] M (fun v M' => XW kX12_carried (d + 1) (some .int) (wQi Q) 241 [some (.inr (.inr 92)), some (.inl x1), some (.inl x2), some (.inl x3), some (.inl x4), some (.inl x5), some (.inl x6), some (.inl x7), some (.inl x8)] [.inl v] M')) : XW kX12_carried (d + 1) (some .int) (wQi Q) 233 [some (.inr (.inr 92)), some (.inl x1), some (.inl x2), some (.inl x3), some (.inl x4), some (.inl x5), some (.inl x6), some (.inl x7), some (.inl x8)] [] M := by
  refine x_aload_n rfl rfl ?_
  refine x_iload rfl rfl ?_
  refine x_iload rfl rfl ?_
  exact x_calli (args := [.inr (.inr 92), .inl x7, .inl x8]) rfl rfl rfl k
theorem uX12_carried_241 {d : Nat} {Q : Int → yM → Prop} {M : yM} {x1 : Int} {x2 : Int} {x3 : Int} {x4 : Int} {x5 : Int} {x6 : Int} {x7 : Int} {x8 : Int} {s0 : Int} (h1 : -2147483648 ≤ s0 ∧ s0 < 2147483648) (kt : s0 = 0 → XW kX12_carried d (some .int) (wQi Q) 261 [some (.inr (.inr 92)), some (.inl x1), some (.inl x2), some (.inl x3), some (.inl x4), some (.inl x5), some (.inl x6), some (.inl x7), some (.inl x8)] [] M) (kf : s0 ≠ 0 → XW kX12_carried d (some .int) (wQi Q) 244 [some (.inr (.inr 92)), some (.inl x1), some (.inl x2), some (.inl x3), some (.inl x4), some (.inl x5), some (.inl x6), some (.inl x7), some (.inl x8)] [] M) : XW kX12_carried d (some .int) (wQi Q) 241 [some (.inr (.inr 92)), some (.inl x1), some (.inl x2), some (.inl x3), some (.inl x4), some (.inl x5), some (.inl x6), some (.inl x7), some (.inl x8)] [.inl s0] M := by
  exact x_ifeq rfl h1 kt kf
theorem uX12_carried_244 {d : Nat} {Q : Int → yM → Prop} {M : yM} {x1 : Int} {x2 : Int} {x3 : Int} {x4 : Int} {x5 : Int} {x6 : Int} {x7 : Int} {x8 : Int} (h1 : -2147483648 ≤ (x6 + 1) ∧ (x6 + 1) < 2147483648) (h2 : -2147483648 ≤ x3 ∧ x3 < 2147483648) (kt : (x6 + 1) ≥ x3 → XW kX12_carried d (some .int) (wQi Q) 261 [some (.inr (.inr 92)), some (.inl x1), some (.inl x2), some (.inl x3), some (.inl x4), some (.inl x5), some (.inl (x6 + 1)), some (.inl x7), some (.inl x8)] [] M) (kf : (x6 + 1) < x3 → XW kX12_carried d (some .int) (wQi Q) 253 [some (.inr (.inr 92)), some (.inl x1), some (.inl x2), some (.inl x3), some (.inl x4), some (.inl x5), some (.inl (x6 + 1)), some (.inl x7), some (.inl x8)] [] M) : XW kX12_carried d (some .int) (wQi Q) 244 [some (.inr (.inr 92)), some (.inl x1), some (.inl x2), some (.inl x3), some (.inl x4), some (.inl x5), some (.inl x6), some (.inl x7), some (.inl x8)] [] M := by
  refine x_iinc 1 rfl (by decide) rfl rfl ?_
  refine x_iload rfl rfl ?_
  refine x_iload_n rfl rfl ?_
  exact x_icmpge rfl h1 h2 kt kf
theorem uX12_carried_253 {d : Nat} {Q : Int → yM → Prop} {M : yM} {x1 : Int} {x2 : Int} {x3 : Int} {x4 : Int} {x5 : Int} {x6 : Int} {x7 : Int} {x8 : Int} (h1 : 0 ≤ x6 ∧ x6 < 28) (k : ∀ M', M' = (put M 103 x6 0) → XW kX12_carried d (some .int) (wQi Q) 261 [some (.inr (.inr 92)), some (.inl x1), some (.inl x2), some (.inl x3), some (.inl x4), some (.inl x5), some (.inl x6), some (.inl x7), some (.inl x8)] [] M') : XW kX12_carried d (some .int) (wQi Q) 253 [some (.inr (.inr 92)), some (.inl x1), some (.inl x2), some (.inl x3), some (.inl x4), some (.inl x5), some (.inl x6), some (.inl x7), some (.inl x8)] [] M := by
  refine x_aload_n rfl rfl ?_
  refine x_getR rfl sh92 rfl ?_
  refine x_iload rfl rfl ?_
  refine x_iconst 0 rfl (by decide) ?_
  refine x_iastore rfl ⟨sh103, Nat.le_of_ble_eq_true rfl⟩ h1  ?_
  exact k _ rfl
theorem uX12_carried_261 {d : Nat} {Q : Int → yM → Prop} {M : yM} {x1 : Int} {x2 : Int} {x3 : Int} {x4 : Int} {x5 : Int} {x6 : Int} {x7 : Int} {x8 : Int} (k : XW kX12_carried d (some .int) (wQi Q) 95 [some (.inr (.inr 92)), some (.inl x1), some (.inl x2), some (.inl x3), some (.inl x4), some (.inl x5), some (.inl x6), some (.inl x7), some (.inl x8)] [] M) : XW kX12_carried d (some .int) (wQi Q) 261 [some (.inr (.inr 92)), some (.inl x1), some (.inl x2), some (.inl x3), some (.inl x4), some (.inl x5), some (.inl x6), some (.inl x7), some (.inl x8)] [] M := by
  exact x_goto rfl k
theorem uX12_carried_264 {d : Nat} {Q : Int → yM → Prop} {M : yM} {x1 : Int} {x2 : Int} {x3 : Int} {x4 : Int} {x5 : Int} {x6 : Int} {wx7 : Option yV} {wx8 : Option yV} (h1 : -2147483648 ≤ x4 ∧ x4 < 2147483648) (kt : x4 ≤ 20000 → XW kX12_carried d (some .int) (wQi Q) 277 [some (.inr (.inr 92)), some (.inl x1), some (.inl x2), some (.inl x3), some (.inl x4), some (.inl x5), some (.inl x6), wx7, wx8] [] M) (kf : x4 > 20000 → XW kX12_carried d (some .int) (wQi Q) 272 [some (.inr (.inr 92)), some (.inl x1), some (.inl x2), some (.inl x3), some (.inl x4), some (.inl x5), some (.inl x6), wx7, wx8] [] M) : XW kX12_carried d (some .int) (wQi Q) 264 [some (.inr (.inr 92)), some (.inl x1), some (.inl x2), some (.inl x3), some (.inl x4), some (.inl x5), some (.inl x6), wx7, wx8] [] M := by
  refine x_iload rfl rfl ?_
  refine x_sipush 20000 rfl (by decide) ?_
  exact x_icmple rfl h1 (by decide) kt kf
theorem uX12_carried_272 {d : Nat} {Q : Int → yM → Prop} {M : yM} {x1 : Int} {x2 : Int} {x3 : Int} {x4 : Int} {x5 : Int} {x6 : Int} {wx7 : Option yV} {wx8 : Option yV} (k : XW kX12_carried d (some .int) (wQi Q) 288 [some (.inr (.inr 92)), some (.inl x1), some (.inl x2), some (.inl x3), some (.inl x4), some (.inl x5), some (.inl x6), wx7, wx8] [.inl (-5)] M) : XW kX12_carried d (some .int) (wQi Q) 272 [some (.inr (.inr 92)), some (.inl x1), some (.inl x2), some (.inl x3), some (.inl x4), some (.inl x5), some (.inl x6), wx7, wx8] [] M := by
  refine x_bipush (-5) rfl (by decide) ?_
  exact x_goto rfl k
theorem uX12_carried_277 {d : Nat} {Q : Int → yM → Prop} {M : yM} {x1 : Int} {x2 : Int} {x3 : Int} {x4 : Int} {x5 : Int} {x6 : Int} {wx7 : Option yV} {wx8 : Option yV} (h1 : -2147483648 ≤ x2 ∧ x2 < 2147483648) (kt : x2 ≠ 0 → XW kX12_carried d (some .int) (wQi Q) 286 [some (.inr (.inr 92)), some (.inl x1), some (.inl x2), some (.inl x3), some (.inl x4), some (.inl x5), some (.inl x6), wx7, wx8] [] M) (kf : x2 = 0 → XW kX12_carried d (some .int) (wQi Q) 281 [some (.inr (.inr 92)), some (.inl x1), some (.inl x2), some (.inl x3), some (.inl x4), some (.inl x5), some (.inl x6), wx7, wx8] [] M) : XW kX12_carried d (some .int) (wQi Q) 277 [some (.inr (.inr 92)), some (.inl x1), some (.inl x2), some (.inl x3), some (.inl x4), some (.inl x5), some (.inl x6), wx7, wx8] [] M := by
  refine x_iload_n rfl rfl ?_
  exact x_ifne rfl h1 kt kf
theorem uX12_carried_281 {d : Nat} {Q : Int → yM → Prop} {M : yM} {x1 : Int} {x2 : Int} {x3 : Int} {x4 : Int} {x5 : Int} {x6 : Int} {wx7 : Option yV} {wx8 : Option yV} (k : XW kX12_carried d (some .int) (wQi Q) 288 [some (.inr (.inr 92)), some (.inl x1), some (.inl x2), some (.inl x3), some (.inl x4), some (.inl x5), some (.inl x6), wx7, wx8] [.inl x4] M) : XW kX12_carried d (some .int) (wQi Q) 281 [some (.inr (.inr 92)), some (.inl x1), some (.inl x2), some (.inl x3), some (.inl x4), some (.inl x5), some (.inl x6), wx7, wx8] [] M := by
  refine x_iload rfl rfl ?_
  exact x_goto rfl k
theorem uX12_carried_286 {d : Nat} {Q : Int → yM → Prop} {M : yM} {x1 : Int} {x2 : Int} {x3 : Int} {x4 : Int} {x5 : Int} {x6 : Int} {wx7 : Option yV} {wx8 : Option yV} (k : XW kX12_carried d (some .int) (wQi Q) 288 [some (.inr (.inr 92)), some (.inl x1), some (.inl x2), some (.inl x3), some (.inl x4), some (.inl x5), some (.inl x6), wx7, wx8] [.inl x5] M) : XW kX12_carried d (some .int) (wQi Q) 286 [some (.inr (.inr 92)), some (.inl x1), some (.inl x2), some (.inl x3), some (.inl x4), some (.inl x5), some (.inl x6), wx7, wx8] [] M := by
  refine x_iload rfl rfl ?_
  exact k
theorem uX12_carried_288 {d : Nat} {Q : Int → yM → Prop} {M : yM} {x1 : Int} {x2 : Int} {x3 : Int} {x4 : Int} {x5 : Int} {x6 : Int} {wx7 : Option yV} {wx8 : Option yV} {s0 : Int} (k : Q s0 M) : XW kX12_carried d (some .int) (wQi Q) 288 [some (.inr (.inr 92)), some (.inl x1), some (.inl x2), some (.inl x3), some (.inl x4), some (.inl x5), some (.inl x6), wx7, wx8] [.inl s0] M := by
  exact x_ireturn rfl k
theorem eX12_count {d : Nat} {Q : Int → yM → Prop} {M : yM} {x1 : Int}  (h : XW kX12_count d (some .int) (wQi Q) 0 [some (.inr (.inr 92)), some (.inl x1), none, none, none] [] M) : XCi d 177 [.inr (.inr 92), .inl x1] M Q :=
  XC.ofW (Mm := (yX12_count, cX12_count, 5, (some .int), 13, kX12_count)) rfl (rcv_ok sh92) rfl rfl h
theorem uX12_count_0 {d : Nat} {Q : Int → yM → Prop} {M : yM} {x1 : Int} (k : ∀ M', M' = (put M 92 0 0) → XW kX12_count d (some .int) (wQi Q) 5 [some (.inr (.inr 92)), some (.inl x1), none, none, none] [] M') : XW kX12_count d (some .int) (wQi Q) 0 [some (.inr (.inr 92)), some (.inl x1), none, none, none] [] M := by
  refine x_aload_n rfl rfl ?_
  refine x_iconst 0 rfl (by decide) ?_
  refine x_putI rfl rfl sh92 rfl ?_
  exact k _ rfl
theorem uX12_count_5 {d : Nat} {Q : Int → yM → Prop} {M : yM} {x1 : Int} (h1 : -2147483648 ≤ x1 ∧ x1 < 2147483648) (kt : x1 ≠ 1 → XW kX12_count d (some .int) (wQi Q) 66 [some (.inr (.inr 92)), some (.inl x1), none, none, none] [] M) (kf : x1 = 1 → XW kX12_count d (some .int) (wQi Q) 10 [some (.inr (.inr 92)), some (.inl x1), none, none, none] [] M) : XW kX12_count d (some .int) (wQi Q) 5 [some (.inr (.inr 92)), some (.inl x1), none, none, none] [] M := by
  refine x_iload_n rfl rfl ?_
  refine x_iconst 1 rfl (by decide) ?_
  exact x_icmpne rfl h1 (by decide) kt kf
theorem uX12_count_10 {d : Nat} {Q : Int → yM → Prop} {M : yM} {x1 : Int} (k : XW kX12_count d (some .int) (wQi Q) 14 [some (.inr (.inr 92)), some (.inl x1), some (.inl 0), some (.inl 0), none] [] M) : XW kX12_count d (some .int) (wQi Q) 10 [some (.inr (.inr 92)), some (.inl x1), none, none, none] [] M := by
  refine x_iconst 0 rfl (by decide) ?_
  refine x_istore_n rfl (Nat.le_of_ble_eq_true rfl) rfl ?_
  refine x_iconst 0 rfl (by decide) ?_
  refine x_istore_n rfl (Nat.le_of_ble_eq_true rfl) rfl ?_
  exact k
theorem uX12_count_14 {d : Nat} {Q : Int → yM → Prop} {M : yM} {x1 : Int} {x2 : Int} {x3 : Int} {wx4 : Option yV} (h1 : -2147483648 ≤ x3 ∧ x3 < 2147483648) (kt : x3 ≥ (ld M 92 2) → XW kX12_count d (some .int) (wQi Q) 64 [some (.inr (.inr 92)), some (.inl x1), some (.inl x2), some (.inl x3), wx4] [] M) (kf : x3 < (ld M 92 2) → XW kX12_count d (some .int) (wQi Q) 22 [some (.inr (.inr 92)), some (.inl x1), some (.inl x2), some (.inl x3), wx4] [] M) : XW kX12_count d (some .int) (wQi Q) 14 [some (.inr (.inr 92)), some (.inl x1), some (.inl x2), some (.inl x3), wx4] [] M := by
  refine x_iload_n rfl rfl ?_
  refine x_aload_n rfl rfl ?_
  refine x_getI rfl sh92 rfl ?_
  exact x_icmpge rfl h1 (rng_ld _ _ _) kt kf
theorem uX12_count_22 {d : Nat} {Q : Int → yM → Prop} {M : yM} {x1 : Int} {x2 : Int} {x3 : Int} {wx4 : Option yV} (k : XW kX12_count d (some .int) (wQi Q) 25 [some (.inr (.inr 92)), some (.inl x1), some (.inl x2), some (.inl x3), some (.inl 0)] [] M) : XW kX12_count d (some .int) (wQi Q) 22 [some (.inr (.inr 92)), some (.inl x1), some (.inl x2), some (.inl x3), wx4] [] M := by
  refine x_iconst 0 rfl (by decide) ?_
  refine x_istore rfl (Nat.le_of_ble_eq_true rfl) rfl ?_
  exact k
theorem uX12_count_25 {d : Nat} {Q : Int → yM → Prop} {M : yM} {x1 : Int} {x2 : Int} {x3 : Int} {x4 : Int} (h1 : -2147483648 ≤ x4 ∧ x4 < 2147483648) (kt : x4 ≥ (ld M 92 2) → XW kX12_count d (some .int) (wQi Q) 58 [some (.inr (.inr 92)), some (.inl x1), some (.inl x2), some (.inl x3), some (.inl x4)] [] M) (kf : x4 < (ld M 92 2) → XW kX12_count d (some .int) (wQi Q) 34 [some (.inr (.inr 92)), some (.inl x1), some (.inl x2), some (.inl x3), some (.inl x4)] [] M) : XW kX12_count d (some .int) (wQi Q) 25 [some (.inr (.inr 92)), some (.inl x1), some (.inl x2), some (.inl x3), some (.inl x4)] [] M := by
  refine x_iload rfl rfl ?_
  refine x_aload_n rfl rfl ?_
  refine x_getI rfl sh92 rfl ?_
  exact x_icmpge rfl h1 (rng_ld _ _ _) kt kf
theorem uX12_count_34 {d : Nat} {Q : Int → yM → Prop} {M : yM} {x1 : Int} {x2 : Int} {x3 : Int} {x4 : Int} (h1 : 0 ≤ ((8 * x3) + x4) ∧ ((8 * x3) + x4) < 64) (k : XCi d 159 [.inl (ld M 94 ((8 * x3) + x4))] M (fun v M' => XW kX12_count (d + 1) (some .int) (wQi Q) 50 [some (.inr (.inr 92)), some (.inl x1), some (.inl x2), some (.inl x3), some (.inl x4)] [.inl v, .inl x2] M')) : XW kX12_count (d + 1) (some .int) (wQi Q) 34 [some (.inr (.inr 92)), some (.inl x1), some (.inl x2), some (.inl x3), some (.inl x4)] [] M := by
  refine x_iload_n rfl rfl ?_
  refine x_aload_n rfl rfl ?_
  refine x_getR rfl sh92 rfl ?_
  refine x_bipush 8 rfl (by decide) ?_
  refine x_iload_n rfl rfl ?_
  refine x_imul rfl ?_
  refine x_iload rfl rfl ?_
  refine x_iadd rfl ?_
  refine x_iaload rfl ⟨sh94, Nat.le_of_ble_eq_true rfl⟩ h1 ?_
  exact x_calli (args := [.inl (ld M 94 ((8 * x3) + x4))]) rfl rfl rfl k
theorem uX12_count_50 {d : Nat} {Q : Int → yM → Prop} {M : yM} {x1 : Int} {x2 : Int} {x3 : Int} {x4 : Int} {s0 : Int} {s1 : Int} (k : XW kX12_count d (some .int) (wQi Q) 25 [some (.inr (.inr 92)), some (.inl x1), some (.inl (s1 + s0)), some (.inl x3), some (.inl (x4 + 1))] [] M) : XW kX12_count d (some .int) (wQi Q) 50 [some (.inr (.inr 92)), some (.inl x1), some (.inl x2), some (.inl x3), some (.inl x4)] [.inl s0, .inl s1] M := by
  refine x_iadd rfl ?_
  refine x_istore_n rfl (Nat.le_of_ble_eq_true rfl) rfl ?_
  refine x_iinc 1 rfl (by decide) rfl rfl ?_
  exact x_goto rfl k
theorem uX12_count_58 {d : Nat} {Q : Int → yM → Prop} {M : yM} {x1 : Int} {x2 : Int} {x3 : Int} {x4 : Int} (k : XW kX12_count d (some .int) (wQi Q) 14 [some (.inr (.inr 92)), some (.inl x1), some (.inl x2), some (.inl (x3 + 1)), some (.inl x4)] [] M) : XW kX12_count d (some .int) (wQi Q) 58 [some (.inr (.inr 92)), some (.inl x1), some (.inl x2), some (.inl x3), some (.inl x4)] [] M := by
  refine x_iinc 1 rfl (by decide) rfl rfl ?_
  exact x_goto rfl k
theorem uX12_count_64 {d : Nat} {Q : Int → yM → Prop} {M : yM} {x1 : Int} {x2 : Int} {x3 : Int} {wx4 : Option yV} (k : Q x2 M) : XW kX12_count d (some .int) (wQi Q) 64 [some (.inr (.inr 92)), some (.inl x1), some (.inl x2), some (.inl x3), wx4] [] M := by
  refine x_iload_n rfl rfl ?_
  exact x_ireturn rfl k
theorem uX12_count_66 {d : Nat} {Q : Int → yM → Prop} {M : yM} {x1 : Int} (h1 : -2147483648 ≤ x1 ∧ x1 < 2147483648) (kt : x1 ≠ 0 → XW kX12_count d (some .int) (wQi Q) 77 [some (.inr (.inr 92)), some (.inl x1), none, none, none] [] M) (kf : x1 = 0 → XW kX12_count d (some .int) (wQi Q) 70 [some (.inr (.inr 92)), some (.inl x1), none, none, none] [] M) : XW kX12_count d (some .int) (wQi Q) 66 [some (.inr (.inr 92)), some (.inl x1), none, none, none] [] M := by
  refine x_iload_n rfl rfl ?_
  exact x_ifne rfl h1 kt kf
theorem uX12_count_70 {d : Nat} {Q : Int → yM → Prop} {M : yM} {x1 : Int} (k : XW kX12_count d (some .int) (wQi Q) 114 [some (.inr (.inr 92)), some (.inl x1), none, none, none] [.inl (ld M 92 2)] M) : XW kX12_count d (some .int) (wQi Q) 70 [some (.inr (.inr 92)), some (.inl x1), none, none, none] [] M := by
  refine x_aload_n rfl rfl ?_
  refine x_getI rfl sh92 rfl ?_
  exact x_goto rfl k
theorem uX12_count_77 {d : Nat} {Q : Int → yM → Prop} {M : yM} {x1 : Int} (h1 : -2147483648 ≤ x1 ∧ x1 < 2147483648) (kt : x1 ≠ 2 → XW kX12_count d (some .int) (wQi Q) 89 [some (.inr (.inr 92)), some (.inl x1), none, none, none] [] M) (kf : x1 = 2 → XW kX12_count d (some .int) (wQi Q) 82 [some (.inr (.inr 92)), some (.inl x1), none, none, none] [] M) : XW kX12_count d (some .int) (wQi Q) 77 [some (.inr (.inr 92)), some (.inl x1), none, none, none] [] M := by
  refine x_iload_n rfl rfl ?_
  refine x_iconst 2 rfl (by decide) ?_
  exact x_icmpne rfl h1 (by decide) kt kf
theorem uX12_count_82 {d : Nat} {Q : Int → yM → Prop} {M : yM} {x1 : Int} (k : XW kX12_count d (some .int) (wQi Q) 114 [some (.inr (.inr 92)), some (.inl x1), none, none, none] [.inl (ld M 92 11)] M) : XW kX12_count d (some .int) (wQi Q) 82 [some (.inr (.inr 92)), some (.inl x1), none, none, none] [] M := by
  refine x_aload_n rfl rfl ?_
  refine x_getI rfl sh92 rfl ?_
  exact x_goto rfl k
theorem uX12_count_89 {d : Nat} {Q : Int → yM → Prop} {M : yM} {x1 : Int} (h1 : -2147483648 ≤ x1 ∧ x1 < 2147483648) (kt : x1 ≠ 3 → XW kX12_count d (some .int) (wQi Q) 101 [some (.inr (.inr 92)), some (.inl x1), none, none, none] [] M) (kf : x1 = 3 → XW kX12_count d (some .int) (wQi Q) 94 [some (.inr (.inr 92)), some (.inl x1), none, none, none] [] M) : XW kX12_count d (some .int) (wQi Q) 89 [some (.inr (.inr 92)), some (.inl x1), none, none, none] [] M := by
  refine x_iload_n rfl rfl ?_
  refine x_iconst 3 rfl (by decide) ?_
  exact x_icmpne rfl h1 (by decide) kt kf
theorem uX12_count_94 {d : Nat} {Q : Int → yM → Prop} {M : yM} {x1 : Int} (k : XW kX12_count d (some .int) (wQi Q) 114 [some (.inr (.inr 92)), some (.inl x1), none, none, none] [.inl (ld M 92 5)] M) : XW kX12_count d (some .int) (wQi Q) 94 [some (.inr (.inr 92)), some (.inl x1), none, none, none] [] M := by
  refine x_aload_n rfl rfl ?_
  refine x_getI rfl sh92 rfl ?_
  exact x_goto rfl k
theorem uX12_count_101 {d : Nat} {Q : Int → yM → Prop} {M : yM} {x1 : Int} (h1 : -2147483648 ≤ x1 ∧ x1 < 2147483648) (kt : x1 ≠ 4 → XW kX12_count d (some .int) (wQi Q) 113 [some (.inr (.inr 92)), some (.inl x1), none, none, none] [] M) (kf : x1 = 4 → XW kX12_count d (some .int) (wQi Q) 106 [some (.inr (.inr 92)), some (.inl x1), none, none, none] [] M) : XW kX12_count d (some .int) (wQi Q) 101 [some (.inr (.inr 92)), some (.inl x1), none, none, none] [] M := by
  refine x_iload_n rfl rfl ?_
  refine x_iconst 4 rfl (by decide) ?_
  exact x_icmpne rfl h1 (by decide) kt kf
theorem uX12_count_106 {d : Nat} {Q : Int → yM → Prop} {M : yM} {x1 : Int} (k : XW kX12_count d (some .int) (wQi Q) 114 [some (.inr (.inr 92)), some (.inl x1), none, none, none] [.inl (ld M 92 21)] M) : XW kX12_count d (some .int) (wQi Q) 106 [some (.inr (.inr 92)), some (.inl x1), none, none, none] [] M := by
  refine x_aload_n rfl rfl ?_
  refine x_getI rfl sh92 rfl ?_
  exact x_goto rfl k
theorem uX12_count_113 {d : Nat} {Q : Int → yM → Prop} {M : yM} {x1 : Int} (k : XW kX12_count d (some .int) (wQi Q) 114 [some (.inr (.inr 92)), some (.inl x1), none, none, none] [.inl (-1)] M) : XW kX12_count d (some .int) (wQi Q) 113 [some (.inr (.inr 92)), some (.inl x1), none, none, none] [] M := by
  refine x_iconst (-1) rfl (by decide) ?_
  exact k
theorem uX12_count_114 {d : Nat} {Q : Int → yM → Prop} {M : yM} {x1 : Int} {s0 : Int} (k : Q s0 M) : XW kX12_count d (some .int) (wQi Q) 114 [some (.inr (.inr 92)), some (.inl x1), none, none, none] [.inl s0] M := by
  exact x_ireturn rfl k
theorem eX12_trace {d : Nat} {Q : Int → yM → Prop} {M : yM}   (h : XW kX12_trace d (some .long) (wQl Q) 0 [some (.inr (.inr 92))] [] M) : XCl d 178 [.inr (.inr 92)] M Q :=
  XC.ofW (Mm := (yX12_trace, cX12_trace, 1, (some .long), 13, kX12_trace)) rfl (rcv_ok sh92) rfl rfl h
theorem uX12_trace_0 {d : Nat} {Q : Int → yM → Prop} {M : yM}  (k : ∀ M', M' = (put M 92 0 0) → XW kX12_trace d (some .long) (wQl Q) 5 [some (.inr (.inr 92))] [] M') : XW kX12_trace d (some .long) (wQl Q) 0 [some (.inr (.inr 92))] [] M := by
  refine x_aload_n rfl rfl ?_
  refine x_iconst 0 rfl (by decide) ?_
  refine x_putI rfl rfl sh92 rfl ?_
  exact k _ rfl
theorem uX12_trace_5 {d : Nat} {Q : Int → yM → Prop} {M : yM}  (k : Q (ldL M 92 1) M) : XW kX12_trace d (some .long) (wQl Q) 5 [some (.inr (.inr 92))] [] M := by
  refine x_aload_n rfl rfl ?_
  refine x_getL rfl sh92 rfl ?_
  exact x_lreturn rfl k
theorem eJ6_bitCount_0f7a4 {d : Nat} {Q : Int → yM → Prop} {M : yM} {x0 : Int}  (h : XW kJ6_bitCount_0f7a4 d (some .int) (wQi Q) 0 [some (.inl x0)] [] M) : XCi d 179 [.inl x0] M Q :=
  XC.ofW (Mm := (yJ6_bitCount_0f7a4, cJ6_bitCount_0f7a4, 1, (some .int), 0, kJ6_bitCount_0f7a4)) rfl rfl rfl rfl h
theorem uJ6_bitCount_0f7a4_0 {d : Nat} {Q : Int → yM → Prop} {M : yM} {x0 : Int} (k : Q (yand (((yand (((yand (x0 - (yand (yushr x0 1) 1431655765)) 858993459) + (yand (yushr (x0 - (yand (yushr x0 1) 1431655765)) 2) 858993459)) + (yushr ((yand (x0 - (yand (yushr x0 1) 1431655765)) 858993459) + (yand (yushr (x0 - (yand (yushr x0 1) 1431655765)) 2) 858993459)) 4)) 252645135) + (yushr (yand (((yand (x0 - (yand (yushr x0 1) 1431655765)) 858993459) + (yand (yushr (x0 - (yand (yushr x0 1) 1431655765)) 2) 858993459)) + (yushr ((yand (x0 - (yand (yushr x0 1) 1431655765)) 858993459) + (yand (yushr (x0 - (yand (yushr x0 1) 1431655765)) 2) 858993459)) 4)) 252645135) 8)) + (yushr ((yand (((yand (x0 - (yand (yushr x0 1) 1431655765)) 858993459) + (yand (yushr (x0 - (yand (yushr x0 1) 1431655765)) 2) 858993459)) + (yushr ((yand (x0 - (yand (yushr x0 1) 1431655765)) 858993459) + (yand (yushr (x0 - (yand (yushr x0 1) 1431655765)) 2) 858993459)) 4)) 252645135) + (yushr (yand (((yand (x0 - (yand (yushr x0 1) 1431655765)) 858993459) + (yand (yushr (x0 - (yand (yushr x0 1) 1431655765)) 2) 858993459)) + (yushr ((yand (x0 - (yand (yushr x0 1) 1431655765)) 858993459) + (yand (yushr (x0 - (yand (yushr x0 1) 1431655765)) 2) 858993459)) 4)) 252645135) 8)) 16)) 63) M) : XW kJ6_bitCount_0f7a4 d (some .int) (wQi Q) 0 [some (.inl x0)] [] M := by
  refine x_iload_n rfl rfl ?_
  refine x_iload_n rfl rfl ?_
  refine x_iconst 1 rfl (by decide) ?_
  refine x_iushr rfl ?_
  refine x_ldc_w 1431655765 rfl (by decide) ?_
  refine x_iand rfl ?_
  refine x_isub rfl ?_
  refine x_istore_n rfl (Nat.le_of_ble_eq_true rfl) rfl ?_
  refine x_iload_n rfl rfl ?_
  refine x_ldc_w 858993459 rfl (by decide) ?_
  refine x_iand rfl ?_
  refine x_iload_n rfl rfl ?_
  refine x_iconst 2 rfl (by decide) ?_
  refine x_iushr rfl ?_
  refine x_ldc_w 858993459 rfl (by decide) ?_
  refine x_iand rfl ?_
  refine x_iadd rfl ?_
  refine x_istore_n rfl (Nat.le_of_ble_eq_true rfl) rfl ?_
  refine x_iload_n rfl rfl ?_
  refine x_iload_n rfl rfl ?_
  refine x_iconst 4 rfl (by decide) ?_
  refine x_iushr rfl ?_
  refine x_iadd rfl ?_
  refine x_ldc_w 252645135 rfl (by decide) ?_
  refine x_iand rfl ?_
  refine x_istore_n rfl (Nat.le_of_ble_eq_true rfl) rfl ?_
  refine x_iload_n rfl rfl ?_
  refine x_iload_n rfl rfl ?_
  refine x_bipush 8 rfl (by decide) ?_
  refine x_iushr rfl ?_
  refine x_iadd rfl ?_
  refine x_istore_n rfl (Nat.le_of_ble_eq_true rfl) rfl ?_
  refine x_iload_n rfl rfl ?_
  refine x_iload_n rfl rfl ?_
  refine x_bipush 16 rfl (by decide) ?_
  refine x_iushr rfl ?_
  refine x_iadd rfl ?_
  refine x_istore_n rfl (Nat.le_of_ble_eq_true rfl) rfl ?_
  refine x_iload_n rfl rfl ?_
  refine x_bipush 63 rfl (by decide) ?_
  refine x_iand rfl ?_
  exact x_ireturn rfl k
theorem eJ13_bitCount_95d88 {d : Nat} {Q : Int → yM → Prop} {M : yM} {x0 : Int}  (h : XW kJ13_bitCount_95d88 d (some .int) (wQi Q) 0 [some (.inr (.inl x0)), none] [] M) : XCi d 180 [.inr (.inl x0)] M Q :=
  XC.ofW (Mm := (yJ13_bitCount_95d88, cJ13_bitCount_95d88, 2, (some .int), 0, kJ13_bitCount_95d88)) rfl rfl rfl rfl h
theorem uJ13_bitCount_95d88_0 {d : Nat} {Q : Int → yM → Prop} {M : yM} {x0 : Int} (k : Q (yand ((((zand (((zand (x0 - (zand (zushr x0 1) 6148914691236517205)) 3689348814741910323) + (zand (zushr (x0 - (zand (zushr x0 1) 6148914691236517205)) 2) 3689348814741910323)) + (zushr ((zand (x0 - (zand (zushr x0 1) 6148914691236517205)) 3689348814741910323) + (zand (zushr (x0 - (zand (zushr x0 1) 6148914691236517205)) 2) 3689348814741910323)) 4)) 1085102592571150095) + (zushr (zand (((zand (x0 - (zand (zushr x0 1) 6148914691236517205)) 3689348814741910323) + (zand (zushr (x0 - (zand (zushr x0 1) 6148914691236517205)) 2) 3689348814741910323)) + (zushr ((zand (x0 - (zand (zushr x0 1) 6148914691236517205)) 3689348814741910323) + (zand (zushr (x0 - (zand (zushr x0 1) 6148914691236517205)) 2) 3689348814741910323)) 4)) 1085102592571150095) 8)) + (zushr ((zand (((zand (x0 - (zand (zushr x0 1) 6148914691236517205)) 3689348814741910323) + (zand (zushr (x0 - (zand (zushr x0 1) 6148914691236517205)) 2) 3689348814741910323)) + (zushr ((zand (x0 - (zand (zushr x0 1) 6148914691236517205)) 3689348814741910323) + (zand (zushr (x0 - (zand (zushr x0 1) 6148914691236517205)) 2) 3689348814741910323)) 4)) 1085102592571150095) + (zushr (zand (((zand (x0 - (zand (zushr x0 1) 6148914691236517205)) 3689348814741910323) + (zand (zushr (x0 - (zand (zushr x0 1) 6148914691236517205)) 2) 3689348814741910323)) + (zushr ((zand (x0 - (zand (zushr x0 1) 6148914691236517205)) 3689348814741910323) + (zand (zushr (x0 - (zand (zushr x0 1) 6148914691236517205)) 2) 3689348814741910323)) 4)) 1085102592571150095) 8)) 16)) + (zushr (((zand (((zand (x0 - (zand (zushr x0 1) 6148914691236517205)) 3689348814741910323) + (zand (zushr (x0 - (zand (zushr x0 1) 6148914691236517205)) 2) 3689348814741910323)) + (zushr ((zand (x0 - (zand (zushr x0 1) 6148914691236517205)) 3689348814741910323) + (zand (zushr (x0 - (zand (zushr x0 1) 6148914691236517205)) 2) 3689348814741910323)) 4)) 1085102592571150095) + (zushr (zand (((zand (x0 - (zand (zushr x0 1) 6148914691236517205)) 3689348814741910323) + (zand (zushr (x0 - (zand (zushr x0 1) 6148914691236517205)) 2) 3689348814741910323)) + (zushr ((zand (x0 - (zand (zushr x0 1) 6148914691236517205)) 3689348814741910323) + (zand (zushr (x0 - (zand (zushr x0 1) 6148914691236517205)) 2) 3689348814741910323)) 4)) 1085102592571150095) 8)) + (zushr ((zand (((zand (x0 - (zand (zushr x0 1) 6148914691236517205)) 3689348814741910323) + (zand (zushr (x0 - (zand (zushr x0 1) 6148914691236517205)) 2) 3689348814741910323)) + (zushr ((zand (x0 - (zand (zushr x0 1) 6148914691236517205)) 3689348814741910323) + (zand (zushr (x0 - (zand (zushr x0 1) 6148914691236517205)) 2) 3689348814741910323)) 4)) 1085102592571150095) + (zushr (zand (((zand (x0 - (zand (zushr x0 1) 6148914691236517205)) 3689348814741910323) + (zand (zushr (x0 - (zand (zushr x0 1) 6148914691236517205)) 2) 3689348814741910323)) + (zushr ((zand (x0 - (zand (zushr x0 1) 6148914691236517205)) 3689348814741910323) + (zand (zushr (x0 - (zand (zushr x0 1) 6148914691236517205)) 2) 3689348814741910323)) 4)) 1085102592571150095) 8)) 16)) 32)) 127) M) : XW kJ13_bitCount_95d88 d (some .int) (wQi Q) 0 [some (.inr (.inl x0)), none] [] M := by
  refine x_lload_n rfl rfl ?_
  refine x_lload_n rfl rfl ?_
  refine x_iconst 1 rfl (by decide) ?_
  refine x_lushr rfl ?_
  refine x_ldc2_w 6148914691236517205 rfl (by decide) ?_
  refine x_land rfl ?_
  refine x_lsub rfl ?_
  refine x_lstore_n rfl (Nat.le_of_ble_eq_true rfl) rfl ?_
  refine x_lload_n rfl rfl ?_
  refine x_ldc2_w 3689348814741910323 rfl (by decide) ?_
  refine x_land rfl ?_
  refine x_lload_n rfl rfl ?_
  refine x_iconst 2 rfl (by decide) ?_
  refine x_lushr rfl ?_
  refine x_ldc2_w 3689348814741910323 rfl (by decide) ?_
  refine x_land rfl ?_
  refine x_ladd rfl ?_
  refine x_lstore_n rfl (Nat.le_of_ble_eq_true rfl) rfl ?_
  refine x_lload_n rfl rfl ?_
  refine x_lload_n rfl rfl ?_
  refine x_iconst 4 rfl (by decide) ?_
  refine x_lushr rfl ?_
  refine x_ladd rfl ?_
  refine x_ldc2_w 1085102592571150095 rfl (by decide) ?_
  refine x_land rfl ?_
  refine x_lstore_n rfl (Nat.le_of_ble_eq_true rfl) rfl ?_
  refine x_lload_n rfl rfl ?_
  refine x_lload_n rfl rfl ?_
  refine x_bipush 8 rfl (by decide) ?_
  refine x_lushr rfl ?_
  refine x_ladd rfl ?_
  refine x_lstore_n rfl (Nat.le_of_ble_eq_true rfl) rfl ?_
  refine x_lload_n rfl rfl ?_
  refine x_lload_n rfl rfl ?_
  refine x_bipush 16 rfl (by decide) ?_
  refine x_lushr rfl ?_
  refine x_ladd rfl ?_
  refine x_lstore_n rfl (Nat.le_of_ble_eq_true rfl) rfl ?_
  refine x_lload_n rfl rfl ?_
  refine x_lload_n rfl rfl ?_
  refine x_bipush 32 rfl (by decide) ?_
  refine x_lushr rfl ?_
  refine x_ladd rfl ?_
  refine x_lstore_n rfl (Nat.le_of_ble_eq_true rfl) rfl ?_
  refine x_lload_n rfl rfl ?_
  refine x_l2i rfl ?_
  refine x_bipush 127 rfl (by decide) ?_
  refine x_iand rfl ?_
  exact x_ireturn rfl k
theorem eJ7_fill_53178 {d : Nat} {Q : yM → Prop} {M : yM} {x0 : Nat} {x1 : Int}  (h : XW kJ7_fill_53178 d none (wQv Q) 0 [some (.inr (.inr x0)), some (.inl x1), none, none] [] M) : XCv d 181 [.inr (.inr x0), .inl x1] M Q :=
  XC.ofW (Mm := (yJ7_fill_53178, cJ7_fill_53178, 4, none, 0, kJ7_fill_53178)) rfl rfl rfl rfl h
theorem uJ7_fill_53178_0 {d : Nat} {Q : yM → Prop} {M : yM} {x0 : Nat} {x1 : Int} {nx0 : Nat} (h1 : arrSh x0 nx0) (k : XW kJ7_fill_53178 d none (wQv Q) 5 [some (.inr (.inr x0)), some (.inl x1), some (.inl 0), some (.inl (nx0 : Int))] [] M) : XW kJ7_fill_53178 d none (wQv Q) 0 [some (.inr (.inr x0)), some (.inl x1), none, none] [] M := by
  refine x_iconst 0 rfl (by decide) ?_
  refine x_istore_n rfl (Nat.le_of_ble_eq_true rfl) rfl ?_
  refine x_aload_n rfl rfl ?_
  refine x_alen rfl h1 (by decide) ?_
  refine x_istore_n rfl (Nat.le_of_ble_eq_true rfl) rfl ?_
  exact k
theorem uJ7_fill_53178_5 {d : Nat} {Q : yM → Prop} {M : yM} {x0 : Nat} {x1 : Int} {x2 : Int} {x3 : Int} (h1 : -2147483648 ≤ x2 ∧ x2 < 2147483648) (h2 : -2147483648 ≤ x3 ∧ x3 < 2147483648) (kt : x2 ≥ x3 → XW kJ7_fill_53178 d none (wQv Q) 20 [some (.inr (.inr x0)), some (.inl x1), some (.inl x2), some (.inl x3)] [] M) (kf : x2 < x3 → XW kJ7_fill_53178 d none (wQv Q) 10 [some (.inr (.inr x0)), some (.inl x1), some (.inl x2), some (.inl x3)] [] M) : XW kJ7_fill_53178 d none (wQv Q) 5 [some (.inr (.inr x0)), some (.inl x1), some (.inl x2), some (.inl x3)] [] M := by
  refine x_iload_n rfl rfl ?_
  refine x_iload_n rfl rfl ?_
  exact x_icmpge rfl h1 h2 kt kf
theorem uJ7_fill_53178_10 {d : Nat} {Q : yM → Prop} {M : yM} {x0 : Nat} {x1 : Int} {x2 : Int} {x3 : Int} {nx0 : Nat} (h1 : arrSh x0 nx0) (h2 : 0 ≤ x2 ∧ x2 < nx0) (k : ∀ M', M' = (put M x0 x2 x1) → XW kJ7_fill_53178 d none (wQv Q) 14 [some (.inr (.inr x0)), some (.inl x1), some (.inl x2), some (.inl x3)] [] M') : XW kJ7_fill_53178 d none (wQv Q) 10 [some (.inr (.inr x0)), some (.inl x1), some (.inl x2), some (.inl x3)] [] M := by
  refine x_aload_n rfl rfl ?_
  refine x_iload_n rfl rfl ?_
  refine x_iload_n rfl rfl ?_
  refine x_iastore rfl h1 h2  ?_
  exact k _ rfl
theorem uJ7_fill_53178_14 {d : Nat} {Q : yM → Prop} {M : yM} {x0 : Nat} {x1 : Int} {x2 : Int} {x3 : Int} (k : XW kJ7_fill_53178 d none (wQv Q) 5 [some (.inr (.inr x0)), some (.inl x1), some (.inl (x2 + 1)), some (.inl x3)] [] M) : XW kJ7_fill_53178 d none (wQv Q) 14 [some (.inr (.inr x0)), some (.inl x1), some (.inl x2), some (.inl x3)] [] M := by
  refine x_iinc 1 rfl (by decide) rfl rfl ?_
  exact x_goto rfl k
theorem uJ7_fill_53178_20 {d : Nat} {Q : yM → Prop} {M : yM} {x0 : Nat} {x1 : Int} {x2 : Int} {x3 : Int} (k : Q M) : XW kJ7_fill_53178 d none (wQv Q) 20 [some (.inr (.inr x0)), some (.inl x1), some (.inl x2), some (.inl x3)] [] M := by
  exact x_return rfl k
