theorem eX7_takeLowest {d : Nat} {Q : yM → Prop} {M : yM} {x1 : Nat}  (h : XW kX7_takeLowest d none (wQv Q) 0 [some (.inr (.inr 22)), some (.inr (.inr x1)), none, none] [] M) : XCv d 53 [.inr (.inr 22), .inr (.inr x1)] M Q :=
  XC.ofW (Mm := (yX7_takeLowest, cX7_takeLowest, 4, none, 8, kX7_takeLowest)) rfl (rcv_ok sh22) rfl rfl h
theorem uX7_takeLowest_0 {d : Nat} {Q : yM → Prop} {M : yM} {x1 : Nat} (h1 : arrSh x1 64) (k : ∀ M', M' = (cpy M x1 54 0 0 64) → XW kX7_takeLowest d none (wQv Q) 12 [some (.inr (.inr 22)), some (.inr (.inr x1)), none, none] [] M') : XW kX7_takeLowest d none (wQv Q) 0 [some (.inr (.inr 22)), some (.inr (.inr x1)), none, none] [] M := by
  refine x_aload_n rfl rfl ?_
  refine x_iconst 0 rfl (by decide) ?_
  refine x_aload_n rfl rfl ?_
  refine x_getR rfl sh22 rfl ?_
  refine x_iconst 0 rfl (by decide) ?_
  refine x_bipush 64 rfl (by decide) ?_
  refine x_cpy rfl h1 ⟨sh54, Nat.le_of_ble_eq_true rfl⟩ (by decide) (Nat.le_of_ble_eq_true rfl) ?_
  exact k _ rfl
theorem uX7_takeLowest_12 {d : Nat} {Q : yM → Prop} {M : yM} {x1 : Nat} (k : XW kX7_takeLowest d none (wQv Q) 14 [some (.inr (.inr 22)), some (.inr (.inr x1)), some (.inl 0), none] [] M) : XW kX7_takeLowest d none (wQv Q) 12 [some (.inr (.inr 22)), some (.inr (.inr x1)), none, none] [] M := by
  refine x_iconst 0 rfl (by decide) ?_
  refine x_istore_n rfl (Nat.le_of_ble_eq_true rfl) rfl ?_
  exact k
theorem uX7_takeLowest_14 {d : Nat} {Q : yM → Prop} {M : yM} {x1 : Nat} {x2 : Int} {wx3 : Option yV} (h1 : -2147483648 ≤ x2 ∧ x2 < 2147483648) (kt : x2 ≥ (ld M 22 6) → XW kX7_takeLowest d none (wQv Q) 74 [some (.inr (.inr 22)), some (.inr (.inr x1)), some (.inl x2), wx3] [] M) (kf : x2 < (ld M 22 6) → XW kX7_takeLowest d none (wQv Q) 22 [some (.inr (.inr 22)), some (.inr (.inr x1)), some (.inl x2), wx3] [] M) : XW kX7_takeLowest d none (wQv Q) 14 [some (.inr (.inr 22)), some (.inr (.inr x1)), some (.inl x2), wx3] [] M := by
  refine x_iload_n rfl rfl ?_
  refine x_aload_n rfl rfl ?_
  refine x_getI rfl sh22 rfl ?_
  exact x_icmpge rfl h1 (rng_ld _ _ _) kt kf
theorem uX7_takeLowest_22 {d : Nat} {Q : yM → Prop} {M : yM} {x1 : Nat} {x2 : Int} {wx3 : Option yV} (k : XW kX7_takeLowest d none (wQv Q) 26 [some (.inr (.inr 22)), some (.inr (.inr x1)), some (.inl x2), some (.inl (x2 + 1))] [] M) : XW kX7_takeLowest d none (wQv Q) 22 [some (.inr (.inr 22)), some (.inr (.inr x1)), some (.inl x2), wx3] [] M := by
  refine x_iload_n rfl rfl ?_
  refine x_iconst 1 rfl (by decide) ?_
  refine x_iadd rfl ?_
  refine x_istore_n rfl (Nat.le_of_ble_eq_true rfl) rfl ?_
  exact k
theorem uX7_takeLowest_26 {d : Nat} {Q : yM → Prop} {M : yM} {x1 : Nat} {x2 : Int} {x3 : Int} (h1 : -2147483648 ≤ x3 ∧ x3 < 2147483648) (kt : x3 ≥ (ld M 22 6) → XW kX7_takeLowest d none (wQv Q) 68 [some (.inr (.inr 22)), some (.inr (.inr x1)), some (.inl x2), some (.inl x3)] [] M) (kf : x3 < (ld M 22 6) → XW kX7_takeLowest d none (wQv Q) 34 [some (.inr (.inr 22)), some (.inr (.inr x1)), some (.inl x2), some (.inl x3)] [] M) : XW kX7_takeLowest d none (wQv Q) 26 [some (.inr (.inr 22)), some (.inr (.inr x1)), some (.inl x2), some (.inl x3)] [] M := by
  refine x_iload_n rfl rfl ?_
  refine x_aload_n rfl rfl ?_
  refine x_getI rfl sh22 rfl ?_
  exact x_icmpge rfl h1 (rng_ld _ _ _) kt kf
theorem uX7_takeLowest_34 {d : Nat} {Q : yM → Prop} {M : yM} {x1 : Nat} {x2 : Int} {x3 : Int} (h1 : arrSh x1 64) (h2 : 0 ≤ ((8 * x2) + x3) ∧ ((8 * x2) + x3) < 64) (k : XCi d 116 [.inl (ld M x1 ((8 * x2) + x3))] M (fun v M' => XW kX7_takeLowest (d + 1) none (wQv Q) 59 [some (.inr (.inr 22)), some (.inr (.inr x1)), some (.inl x2), some (.inl x3)] [.inl v, .inl ((8 * x2) + x3), .inr (.inr 54), .inr (.inr 21)] M')) : XW kX7_takeLowest (d + 1) none (wQv Q) 34 [some (.inr (.inr 22)), some (.inr (.inr x1)), some (.inl x2), some (.inl x3)] [] M := by
  refine x_aload_n rfl rfl ?_
  refine x_getR rfl sh22 rfl ?_
  refine x_aload_n rfl rfl ?_
  refine x_getR rfl sh22 rfl ?_
  refine x_bipush 8 rfl (by decide) ?_
  refine x_iload_n rfl rfl ?_
  refine x_imul rfl ?_
  refine x_iload_n rfl rfl ?_
  refine x_iadd rfl ?_
  refine x_aload_n rfl rfl ?_
  refine x_bipush 8 rfl (by decide) ?_
  refine x_iload_n rfl rfl ?_
  refine x_imul rfl ?_
  refine x_iload_n rfl rfl ?_
  refine x_iadd rfl ?_
  refine x_iaload rfl h1 h2 ?_
  exact x_calli (args := [.inl (ld M x1 ((8 * x2) + x3))]) rfl rfl rfl k
theorem uX7_takeLowest_59 {d : Nat} {Q : yM → Prop} {M : yM} {x1 : Nat} {x2 : Int} {x3 : Int} {s0 : Int} {s1 : Int} (k : XCv d 58 [.inr (.inr 21), .inr (.inr 54), .inl s1, .inl s0] M (fun M' => XW kX7_takeLowest (d + 1) none (wQv Q) 62 [some (.inr (.inr 22)), some (.inr (.inr x1)), some (.inl x2), some (.inl x3)] [] M')) : XW kX7_takeLowest (d + 1) none (wQv Q) 59 [some (.inr (.inr 22)), some (.inr (.inr x1)), some (.inl x2), some (.inl x3)] [.inl s0, .inl s1, .inr (.inr 54), .inr (.inr 21)] M := by
  exact x_callv (args := [.inr (.inr 21), .inr (.inr 54), .inl s1, .inl s0]) rfl rfl rfl k
theorem uX7_takeLowest_62 {d : Nat} {Q : yM → Prop} {M : yM} {x1 : Nat} {x2 : Int} {x3 : Int} (k : XW kX7_takeLowest d none (wQv Q) 26 [some (.inr (.inr 22)), some (.inr (.inr x1)), some (.inl x2), some (.inl (x3 + 1))] [] M) : XW kX7_takeLowest d none (wQv Q) 62 [some (.inr (.inr 22)), some (.inr (.inr x1)), some (.inl x2), some (.inl x3)] [] M := by
  refine x_iinc 1 rfl (by decide) rfl rfl ?_
  exact x_goto rfl k
theorem uX7_takeLowest_68 {d : Nat} {Q : yM → Prop} {M : yM} {x1 : Nat} {x2 : Int} {x3 : Int} (k : XW kX7_takeLowest d none (wQv Q) 14 [some (.inr (.inr 22)), some (.inr (.inr x1)), some (.inl (x2 + 1)), some (.inl x3)] [] M) : XW kX7_takeLowest d none (wQv Q) 68 [some (.inr (.inr 22)), some (.inr (.inr x1)), some (.inl x2), some (.inl x3)] [] M := by
  refine x_iinc 1 rfl (by decide) rfl rfl ?_
  exact x_goto rfl k
theorem uX7_takeLowest_74 {d : Nat} {Q : yM → Prop} {M : yM} {x1 : Nat} {x2 : Int} {wx3 : Option yV} (k : Q M) : XW kX7_takeLowest d none (wQv Q) 74 [some (.inr (.inr 22)), some (.inr (.inr x1)), some (.inl x2), wx3] [] M := by
  exact x_return rfl k
theorem eX7_isWhole {d : Nat} {Q : Int → yM → Prop} {M : yM} {x1 : Nat}  (h : XW kX7_isWhole d (some .boolean) (wQi Q) 0 [some (.inr (.inr 22)), some (.inr (.inr x1)), none, none, none, none, none, none] [] M) : XCi d 54 [.inr (.inr 22), .inr (.inr x1)] M Q :=
  XC.ofW (Mm := (yX7_isWhole, cX7_isWhole, 8, (some .boolean), 8, kX7_isWhole)) rfl (rcv_ok sh22) rfl rfl h
theorem uX7_isWhole_0 {d : Nat} {Q : Int → yM → Prop} {M : yM} {x1 : Nat} (k : XW kX7_isWhole d (some .boolean) (wQi Q) 4 [some (.inr (.inr 22)), some (.inr (.inr x1)), some (.inl 1), some (.inl 0), none, none, none, none] [] M) : XW kX7_isWhole d (some .boolean) (wQi Q) 0 [some (.inr (.inr 22)), some (.inr (.inr x1)), none, none, none, none, none, none] [] M := by
  refine x_iconst 1 rfl (by decide) ?_
  refine x_istore_n rfl (Nat.le_of_ble_eq_true rfl) rfl ?_
  refine x_iconst 0 rfl (by decide) ?_
  refine x_istore_n rfl (Nat.le_of_ble_eq_true rfl) rfl ?_
  exact k
theorem uX7_isWhole_4 {d : Nat} {Q : Int → yM → Prop} {M : yM} {x1 : Nat} {x2 : Int} {x3 : Int} {wx4 : Option yV} {wx5 : Option yV} {wx7 : Option yV} (h1 : -2147483648 ≤ x3 ∧ x3 < 2147483648) (kt : x3 ≥ (ld M 22 6) → XW kX7_isWhole d (some .boolean) (wQi Q) 158 [some (.inr (.inr 22)), some (.inr (.inr x1)), some (.inl x2), some (.inl x3), wx4, wx5, none, wx7] [] M) (kf : x3 < (ld M 22 6) → XW kX7_isWhole d (some .boolean) (wQi Q) 12 [some (.inr (.inr 22)), some (.inr (.inr x1)), some (.inl x2), some (.inl x3), wx4, wx5, none, wx7] [] M) : XW kX7_isWhole d (some .boolean) (wQi Q) 4 [some (.inr (.inr 22)), some (.inr (.inr x1)), some (.inl x2), some (.inl x3), wx4, wx5, none, wx7] [] M := by
  refine x_iload_n rfl rfl ?_
  refine x_aload_n rfl rfl ?_
  refine x_getI rfl sh22 rfl ?_
  exact x_icmpge rfl h1 (rng_ld _ _ _) kt kf
theorem uX7_isWhole_12 {d : Nat} {Q : Int → yM → Prop} {M : yM} {x1 : Nat} {x2 : Int} {x3 : Int} {wx4 : Option yV} {wx5 : Option yV} {wx7 : Option yV} (k : XW kX7_isWhole d (some .boolean) (wQi Q) 17 [some (.inr (.inr 22)), some (.inr (.inr x1)), some (.inl x2), some (.inl x3), some (.inl (x3 + 1)), wx5, none, wx7] [] M) : XW kX7_isWhole d (some .boolean) (wQi Q) 12 [some (.inr (.inr 22)), some (.inr (.inr x1)), some (.inl x2), some (.inl x3), wx4, wx5, none, wx7] [] M := by
  refine x_iload_n rfl rfl ?_
  refine x_iconst 1 rfl (by decide) ?_
  refine x_iadd rfl ?_
  refine x_istore rfl (Nat.le_of_ble_eq_true rfl) rfl ?_
  exact k
theorem uX7_isWhole_17 {d : Nat} {Q : Int → yM → Prop} {M : yM} {x1 : Nat} {x2 : Int} {x3 : Int} {x4 : Int} {wx5 : Option yV} {wx7 : Option yV} (h1 : -2147483648 ≤ x4 ∧ x4 < 2147483648) (kt : x4 ≥ (ld M 22 6) → XW kX7_isWhole d (some .boolean) (wQi Q) 152 [some (.inr (.inr 22)), some (.inr (.inr x1)), some (.inl x2), some (.inl x3), some (.inl x4), wx5, none, wx7] [] M) (kf : x4 < (ld M 22 6) → XW kX7_isWhole d (some .boolean) (wQi Q) 26 [some (.inr (.inr 22)), some (.inr (.inr x1)), some (.inl x2), some (.inl x3), some (.inl x4), wx5, none, wx7] [] M) : XW kX7_isWhole d (some .boolean) (wQi Q) 17 [some (.inr (.inr 22)), some (.inr (.inr x1)), some (.inl x2), some (.inl x3), some (.inl x4), wx5, none, wx7] [] M := by
  refine x_iload rfl rfl ?_
  refine x_aload_n rfl rfl ?_
  refine x_getI rfl sh22 rfl ?_
  exact x_icmpge rfl h1 (rng_ld _ _ _) kt kf
theorem uX7_isWhole_26 {d : Nat} {Q : Int → yM → Prop} {M : yM} {x1 : Nat} {x2 : Int} {x3 : Int} {x4 : Int} {wx5 : Option yV} {wx7 : Option yV} (h1 : arrSh x1 64) (h2 : 0 ≤ ((8 * x3) + x4) ∧ ((8 * x3) + x4) < 64) (h3 : 0 ≤ ((8 * x4) + x3) ∧ ((8 * x4) + x3) < 64) (k : XW kX7_isWhole d (some .boolean) (wQi Q) 54 [some (.inr (.inr 22)), some (.inr (.inr x1)), some (.inl (yor x2 (yor (ld M x1 ((8 * x3) + x4)) (ld M x1 ((8 * x4) + x3))))), some (.inl x3), some (.inl x4), some (.inr (.inl 0)), none, some (.inl 0)] [] M) : XW kX7_isWhole d (some .boolean) (wQi Q) 26 [some (.inr (.inr 22)), some (.inr (.inr x1)), some (.inl x2), some (.inl x3), some (.inl x4), wx5, none, wx7] [] M := by
  refine x_iload_n rfl rfl ?_
  refine x_aload_n rfl rfl ?_
  refine x_bipush 8 rfl (by decide) ?_
  refine x_iload_n rfl rfl ?_
  refine x_imul rfl ?_
  refine x_iload rfl rfl ?_
  refine x_iadd rfl ?_
  refine x_iaload rfl h1 h2 ?_
  refine x_aload_n rfl rfl ?_
  refine x_bipush 8 rfl (by decide) ?_
  refine x_iload rfl rfl ?_
  refine x_imul rfl ?_
  refine x_iload_n rfl rfl ?_
  refine x_iadd rfl ?_
  refine x_iaload rfl h1 h3 ?_
  refine x_ior rfl ?_
  refine x_ior rfl ?_
  refine x_istore_n rfl (Nat.le_of_ble_eq_true rfl) rfl ?_
  refine x_lconst 0 rfl (by decide) ?_
  refine x_lstore rfl (Nat.le_of_ble_eq_true rfl) rfl ?_
  refine x_iconst 0 rfl (by decide) ?_
  refine x_istore rfl (Nat.le_of_ble_eq_true rfl) rfl ?_
  exact k
theorem uX7_isWhole_54 {d : Nat} {Q : Int → yM → Prop} {M : yM} {x1 : Nat} {x2 : Int} {x3 : Int} {x4 : Int} {x5 : Int} {x7 : Int} (h1 : -2147483648 ≤ x7 ∧ x7 < 2147483648) (kt : x7 ≥ (ld M 22 6) → XW kX7_isWhole d (some .boolean) (wQi Q) 118 [some (.inr (.inr 22)), some (.inr (.inr x1)), some (.inl x2), some (.inl x3), some (.inl x4), some (.inr (.inl x5)), none, some (.inl x7)] [] M) (kf : x7 < (ld M 22 6) → XW kX7_isWhole d (some .boolean) (wQi Q) 63 [some (.inr (.inr 22)), some (.inr (.inr x1)), some (.inl x2), some (.inl x3), some (.inl x4), some (.inr (.inl x5)), none, some (.inl x7)] [] M) : XW kX7_isWhole d (some .boolean) (wQi Q) 54 [some (.inr (.inr 22)), some (.inr (.inr x1)), some (.inl x2), some (.inl x3), some (.inl x4), some (.inr (.inl x5)), none, some (.inl x7)] [] M := by
  refine x_iload rfl rfl ?_
  refine x_aload_n rfl rfl ?_
  refine x_getI rfl sh22 rfl ?_
  exact x_icmpge rfl h1 (rng_ld _ _ _) kt kf
theorem uX7_isWhole_63 {d : Nat} {Q : Int → yM → Prop} {M : yM} {x1 : Nat} {x2 : Int} {x3 : Int} {x4 : Int} {x5 : Int} {x7 : Int} (h1 : -2147483648 ≤ x7 ∧ x7 < 2147483648) (h2 : -2147483648 ≤ x3 ∧ x3 < 2147483648) (kt : x7 = x3 → XW kX7_isWhole d (some .boolean) (wQi Q) 112 [some (.inr (.inr 22)), some (.inr (.inr x1)), some (.inl x2), some (.inl x3), some (.inl x4), some (.inr (.inl x5)), none, some (.inl x7)] [] M) (kf : x7 ≠ x3 → XW kX7_isWhole d (some .boolean) (wQi Q) 69 [some (.inr (.inr 22)), some (.inr (.inr x1)), some (.inl x2), some (.inl x3), some (.inl x4), some (.inr (.inl x5)), none, some (.inl x7)] [] M) : XW kX7_isWhole d (some .boolean) (wQi Q) 63 [some (.inr (.inr 22)), some (.inr (.inr x1)), some (.inl x2), some (.inl x3), some (.inl x4), some (.inr (.inl x5)), none, some (.inl x7)] [] M := by
  refine x_iload rfl rfl ?_
  refine x_iload_n rfl rfl ?_
  exact x_icmpeq rfl h1 h2 kt kf
theorem uX7_isWhole_69 {d : Nat} {Q : Int → yM → Prop} {M : yM} {x1 : Nat} {x2 : Int} {x3 : Int} {x4 : Int} {x5 : Int} {x7 : Int} (h1 : -2147483648 ≤ x7 ∧ x7 < 2147483648) (h2 : -2147483648 ≤ x4 ∧ x4 < 2147483648) (kt : x7 = x4 → XW kX7_isWhole d (some .boolean) (wQi Q) 112 [some (.inr (.inr 22)), some (.inr (.inr x1)), some (.inl x2), some (.inl x3), some (.inl x4), some (.inr (.inl x5)), none, some (.inl x7)] [] M) (kf : x7 ≠ x4 → XW kX7_isWhole d (some .boolean) (wQi Q) 76 [some (.inr (.inr 22)), some (.inr (.inr x1)), some (.inl x2), some (.inl x3), some (.inl x4), some (.inr (.inl x5)), none, some (.inl x7)] [] M) : XW kX7_isWhole d (some .boolean) (wQi Q) 69 [some (.inr (.inr 22)), some (.inr (.inr x1)), some (.inl x2), some (.inl x3), some (.inl x4), some (.inr (.inl x5)), none, some (.inl x7)] [] M := by
  refine x_iload rfl rfl ?_
  refine x_iload rfl rfl ?_
  exact x_icmpeq rfl h1 h2 kt kf
theorem uX7_isWhole_76 {d : Nat} {Q : Int → yM → Prop} {M : yM} {x1 : Nat} {x2 : Int} {x3 : Int} {x4 : Int} {x5 : Int} {x7 : Int} (h1 : arrSh x1 64) (h2 : 0 ≤ ((8 * x3) + x7) ∧ ((8 * x3) + x7) < 64) (k : XCi d 116 [.inl (ld M x1 ((8 * x3) + x7))] M (fun v M' => XW kX7_isWhole (d + 1) (some .boolean) (wQi Q) 93 [some (.inr (.inr 22)), some (.inr (.inr x1)), some (.inl x2), some (.inl x3), some (.inl x4), some (.inr (.inl x5)), none, some (.inl x7)] [.inl v, .inl 8, .inr (.inl 1), .inr (.inl x5)] M')) : XW kX7_isWhole (d + 1) (some .boolean) (wQi Q) 76 [some (.inr (.inr 22)), some (.inr (.inr x1)), some (.inl x2), some (.inl x3), some (.inl x4), some (.inr (.inl x5)), none, some (.inl x7)] [] M := by
  refine x_lload rfl rfl ?_
  refine x_lconst 1 rfl (by decide) ?_
  refine x_bipush 8 rfl (by decide) ?_
  refine x_aload_n rfl rfl ?_
  refine x_bipush 8 rfl (by decide) ?_
  refine x_iload_n rfl rfl ?_
  refine x_imul rfl ?_
  refine x_iload rfl rfl ?_
  refine x_iadd rfl ?_
  refine x_iaload rfl h1 h2 ?_
  exact x_calli (args := [.inl (ld M x1 ((8 * x3) + x7))]) rfl rfl rfl k
theorem uX7_isWhole_93 {d : Nat} {Q : Int → yM → Prop} {M : yM} {x1 : Nat} {x2 : Int} {x3 : Int} {x4 : Int} {x5 : Int} {x7 : Int} {s0 : Int} {s1 : Int} {s2 : Int} {s3 : Int} (h1 : arrSh x1 64) (h2 : 0 ≤ ((8 * x7) + x4) ∧ ((8 * x7) + x4) < 64) (k : XCi d 116 [.inl (ld M x1 ((8 * x7) + x4))] M (fun v M' => XW kX7_isWhole (d + 1) (some .boolean) (wQi Q) 107 [some (.inr (.inr 22)), some (.inr (.inr x1)), some (.inl x2), some (.inl x3), some (.inl x4), some (.inr (.inl x5)), none, some (.inl x7)] [.inl v, .inl (s1 * s0), .inr (.inl s2), .inr (.inl s3)] M')) : XW kX7_isWhole (d + 1) (some .boolean) (wQi Q) 93 [some (.inr (.inr 22)), some (.inr (.inr x1)), some (.inl x2), some (.inl x3), some (.inl x4), some (.inr (.inl x5)), none, some (.inl x7)] [.inl s0, .inl s1, .inr (.inl s2), .inr (.inl s3)] M := by
  refine x_imul rfl ?_
  refine x_aload_n rfl rfl ?_
  refine x_bipush 8 rfl (by decide) ?_
  refine x_iload rfl rfl ?_
  refine x_imul rfl ?_
  refine x_iload rfl rfl ?_
  refine x_iadd rfl ?_
  refine x_iaload rfl h1 h2 ?_
  exact x_calli (args := [.inl (ld M x1 ((8 * x7) + x4))]) rfl rfl rfl k
theorem uX7_isWhole_107 {d : Nat} {Q : Int → yM → Prop} {M : yM} {x1 : Nat} {x2 : Int} {x3 : Int} {x4 : Int} {x5 : Int} {x7 : Int} {s0 : Int} {s1 : Int} {s2 : Int} {s3 : Int} (k : XW kX7_isWhole d (some .boolean) (wQi Q) 112 [some (.inr (.inr 22)), some (.inr (.inr x1)), some (.inl x2), some (.inl x3), some (.inl x4), some (.inr (.inl (zor s3 (zshl s2 (s1 + s0))))), none, some (.inl x7)] [] M) : XW kX7_isWhole d (some .boolean) (wQi Q) 107 [some (.inr (.inr 22)), some (.inr (.inr x1)), some (.inl x2), some (.inl x3), some (.inl x4), some (.inr (.inl x5)), none, some (.inl x7)] [.inl s0, .inl s1, .inr (.inl s2), .inr (.inl s3)] M := by
  refine x_iadd rfl ?_
  refine x_lshl rfl ?_
  refine x_lor rfl ?_
  refine x_lstore rfl (Nat.le_of_ble_eq_true rfl) rfl ?_
  exact k
theorem uX7_isWhole_112 {d : Nat} {Q : Int → yM → Prop} {M : yM} {x1 : Nat} {x2 : Int} {x3 : Int} {x4 : Int} {x5 : Int} {x7 : Int} (k : XW kX7_isWhole d (some .boolean) (wQi Q) 54 [some (.inr (.inr 22)), some (.inr (.inr x1)), some (.inl x2), some (.inl x3), some (.inl x4), some (.inr (.inl x5)), none, some (.inl (x7 + 1))] [] M) : XW kX7_isWhole d (some .boolean) (wQi Q) 112 [some (.inr (.inr 22)), some (.inr (.inr x1)), some (.inl x2), some (.inl x3), some (.inl x4), some (.inr (.inl x5)), none, some (.inl x7)] [] M := by
  refine x_iinc 1 rfl (by decide) rfl rfl ?_
  exact x_goto rfl k
theorem uX7_isWhole_118 {d : Nat} {Q : Int → yM → Prop} {M : yM} {x1 : Nat} {x2 : Int} {x3 : Int} {x4 : Int} {x5 : Int} {x7 : Int} (h1 : arrSh x1 64) (h2 : 0 ≤ ((8 * x3) + x4) ∧ ((8 * x3) + x4) < 64) (k : XCi d 116 [.inl (ld M x1 ((8 * x3) + x4))] M (fun v M' => XW kX7_isWhole (d + 1) (some .boolean) (wQi Q) 136 [some (.inr (.inr 22)), some (.inr (.inr x1)), some (.inl x2), some (.inl x3), some (.inl x4), some (.inr (.inl x5)), none, some (.inl x7)] [.inl v, .inr (.inr 55), .inr (.inl x5)] M')) : XW kX7_isWhole (d + 1) (some .boolean) (wQi Q) 118 [some (.inr (.inr 22)), some (.inr (.inr x1)), some (.inl x2), some (.inl x3), some (.inl x4), some (.inr (.inl x5)), none, some (.inl x7)] [] M := by
  refine x_lload rfl rfl ?_
  refine x_aload_n rfl rfl ?_
  refine x_getR rfl sh22 rfl ?_
  refine x_aload_n rfl rfl ?_
  refine x_bipush 8 rfl (by decide) ?_
  refine x_iload_n rfl rfl ?_
  refine x_imul rfl ?_
  refine x_iload rfl rfl ?_
  refine x_iadd rfl ?_
  refine x_iaload rfl h1 h2 ?_
  exact x_calli (args := [.inl (ld M x1 ((8 * x3) + x4))]) rfl rfl rfl k
theorem uX7_isWhole_136 {d : Nat} {Q : Int → yM → Prop} {M : yM} {x1 : Nat} {x2 : Int} {x3 : Int} {x4 : Int} {x5 : Int} {x7 : Int} {s0 : Int} {s2 : Int} (h1 : 0 ≤ (yand s0 7) ∧ (yand s0 7) < 8) (h2 : -2147483648 ≤ (zcmp s2 (ldL M 55 (yand s0 7))) ∧ (zcmp s2 (ldL M 55 (yand s0 7))) < 2147483648) (kt : (zcmp s2 (ldL M 55 (yand s0 7))) = 0 → XW kX7_isWhole d (some .boolean) (wQi Q) 146 [some (.inr (.inr 22)), some (.inr (.inr x1)), some (.inl x2), some (.inl x3), some (.inl x4), some (.inr (.inl x5)), none, some (.inl x7)] [] M) (kf : (zcmp s2 (ldL M 55 (yand s0 7))) ≠ 0 → XW kX7_isWhole d (some .boolean) (wQi Q) 144 [some (.inr (.inr 22)), some (.inr (.inr x1)), some (.inl x2), some (.inl x3), some (.inl x4), some (.inr (.inl x5)), none, some (.inl x7)] [] M) : XW kX7_isWhole d (some .boolean) (wQi Q) 136 [some (.inr (.inr 22)), some (.inr (.inr x1)), some (.inl x2), some (.inl x3), some (.inl x4), some (.inr (.inl x5)), none, some (.inl x7)] [.inl s0, .inr (.inr 55), .inr (.inl s2)] M := by
  refine x_bipush 7 rfl (by decide) ?_
  refine x_iand rfl ?_
  refine x_laload rfl ⟨sh55, Nat.le_of_ble_eq_true rfl⟩ h1 ?_
  refine x_lcmp rfl ?_
  exact x_ifeq rfl h2 kt kf
theorem uX7_isWhole_144 {d : Nat} {Q : Int → yM → Prop} {M : yM} {x1 : Nat} {x2 : Int} {x3 : Int} {x4 : Int} {x5 : Int} {x7 : Int} (k : Q 0 M) : XW kX7_isWhole d (some .boolean) (wQi Q) 144 [some (.inr (.inr 22)), some (.inr (.inr x1)), some (.inl x2), some (.inl x3), some (.inl x4), some (.inr (.inl x5)), none, some (.inl x7)] [] M := by
  refine x_iconst 0 rfl (by decide) ?_
  exact x_zreturn rfl (by decide) k
theorem uX7_isWhole_146 {d : Nat} {Q : Int → yM → Prop} {M : yM} {x1 : Nat} {x2 : Int} {x3 : Int} {x4 : Int} {x5 : Int} {x7 : Int} (k : XW kX7_isWhole d (some .boolean) (wQi Q) 17 [some (.inr (.inr 22)), some (.inr (.inr x1)), some (.inl x2), some (.inl x3), some (.inl (x4 + 1)), some (.inr (.inl x5)), none, some (.inl x7)] [] M) : XW kX7_isWhole d (some .boolean) (wQi Q) 146 [some (.inr (.inr 22)), some (.inr (.inr x1)), some (.inl x2), some (.inl x3), some (.inl x4), some (.inr (.inl x5)), none, some (.inl x7)] [] M := by
  refine x_iinc 1 rfl (by decide) rfl rfl ?_
  exact x_goto rfl k
theorem uX7_isWhole_152 {d : Nat} {Q : Int → yM → Prop} {M : yM} {x1 : Nat} {x2 : Int} {x3 : Int} {x4 : Int} {wx5 : Option yV} {wx7 : Option yV} (k : XW kX7_isWhole d (some .boolean) (wQi Q) 4 [some (.inr (.inr 22)), some (.inr (.inr x1)), some (.inl x2), some (.inl (x3 + 1)), some (.inl x4), wx5, none, wx7] [] M) : XW kX7_isWhole d (some .boolean) (wQi Q) 152 [some (.inr (.inr 22)), some (.inr (.inr x1)), some (.inl x2), some (.inl x3), some (.inl x4), wx5, none, wx7] [] M := by
  refine x_iinc 1 rfl (by decide) rfl rfl ?_
  exact x_goto rfl k
theorem uX7_isWhole_158 {d : Nat} {Q : Int → yM → Prop} {M : yM} {x1 : Nat} {x2 : Int} {x3 : Int} {wx4 : Option yV} {wx5 : Option yV} {wx7 : Option yV} (k : XCi d 60 [.inr (.inr 1)] M (fun v M' => XW kX7_isWhole (d + 1) (some .boolean) (wQi Q) 166 [some (.inr (.inr 22)), some (.inr (.inr x1)), some (.inl x2), some (.inl x3), wx4, wx5, none, wx7] [.inl v, .inl x2] M')) : XW kX7_isWhole (d + 1) (some .boolean) (wQi Q) 158 [some (.inr (.inr 22)), some (.inr (.inr x1)), some (.inl x2), some (.inl x3), wx4, wx5, none, wx7] [] M := by
  refine x_iload_n rfl rfl ?_
  refine x_aload_n rfl rfl ?_
  refine x_getR rfl sh22 rfl ?_
  exact x_calli (args := [.inr (.inr 1)]) rfl rfl rfl k
theorem uX7_isWhole_166 {d : Nat} {Q : Int → yM → Prop} {M : yM} {x1 : Nat} {x2 : Int} {x3 : Int} {wx4 : Option yV} {wx5 : Option yV} {wx7 : Option yV} {s0 : Int} {s1 : Int} (h1 : -2147483648 ≤ s1 ∧ s1 < 2147483648) (h2 : -2147483648 ≤ s0 ∧ s0 < 2147483648) (kt : s1 ≠ s0 → XW kX7_isWhole d (some .boolean) (wQi Q) 173 [some (.inr (.inr 22)), some (.inr (.inr x1)), some (.inl x2), some (.inl x3), wx4, wx5, none, wx7] [] M) (kf : s1 = s0 → XW kX7_isWhole d (some .boolean) (wQi Q) 169 [some (.inr (.inr 22)), some (.inr (.inr x1)), some (.inl x2), some (.inl x3), wx4, wx5, none, wx7] [] M) : XW kX7_isWhole d (some .boolean) (wQi Q) 166 [some (.inr (.inr 22)), some (.inr (.inr x1)), some (.inl x2), some (.inl x3), wx4, wx5, none, wx7] [.inl s0, .inl s1] M := by
  exact x_icmpne rfl h1 h2 kt kf
theorem uX7_isWhole_169 {d : Nat} {Q : Int → yM → Prop} {M : yM} {x1 : Nat} {x2 : Int} {x3 : Int} {wx4 : Option yV} {wx5 : Option yV} {wx7 : Option yV} (k : XW kX7_isWhole d (some .boolean) (wQi Q) 174 [some (.inr (.inr 22)), some (.inr (.inr x1)), some (.inl x2), some (.inl x3), wx4, wx5, none, wx7] [.inl 1] M) : XW kX7_isWhole d (some .boolean) (wQi Q) 169 [some (.inr (.inr 22)), some (.inr (.inr x1)), some (.inl x2), some (.inl x3), wx4, wx5, none, wx7] [] M := by
  refine x_iconst 1 rfl (by decide) ?_
  exact x_goto rfl k
theorem uX7_isWhole_173 {d : Nat} {Q : Int → yM → Prop} {M : yM} {x1 : Nat} {x2 : Int} {x3 : Int} {wx4 : Option yV} {wx5 : Option yV} {wx7 : Option yV} (k : XW kX7_isWhole d (some .boolean) (wQi Q) 174 [some (.inr (.inr 22)), some (.inr (.inr x1)), some (.inl x2), some (.inl x3), wx4, wx5, none, wx7] [.inl 0] M) : XW kX7_isWhole d (some .boolean) (wQi Q) 173 [some (.inr (.inr 22)), some (.inr (.inr x1)), some (.inl x2), some (.inl x3), wx4, wx5, none, wx7] [] M := by
  refine x_iconst 0 rfl (by decide) ?_
  exact k
theorem uX7_isWhole_174 {d : Nat} {Q : Int → yM → Prop} {M : yM} {x1 : Nat} {x2 : Int} {x3 : Int} {wx4 : Option yV} {wx5 : Option yV} {wx7 : Option yV} {s0 : Int} (h1 : s0 = 0 ∨ s0 = 1) (k : Q s0 M) : XW kX7_isWhole d (some .boolean) (wQi Q) 174 [some (.inr (.inr 22)), some (.inr (.inr x1)), some (.inl x2), some (.inl x3), wx4, wx5, none, wx7] [.inl s0] M := by
  exact x_zreturn rfl h1 k
theorem eX8_pass {d : Nat} {Q : Int → yM → Prop} {M : yM} {x1 : Nat} {x2 : Int} {x3 : Int} {x4 : Int}  (h : XW kX8_pass d (some .int) (wQi Q) 0 [some (.inr (.inr 21)), some (.inr (.inr x1)), some (.inl x2), some (.inl x3), some (.inl x4), none, none] [] M) : XCi d 56 [.inr (.inr 21), .inr (.inr x1), .inl x2, .inl x3, .inl x4] M Q :=
  XC.ofW (Mm := (yX8_pass, cX8_pass, 7, (some .int), 9, kX8_pass)) rfl (rcv_ok sh21) rfl rfl h
theorem uX8_pass_0 {d : Nat} {Q : Int → yM → Prop} {M : yM} {x1 : Nat} {x2 : Int} {x3 : Int} {x4 : Int} (h1 : arrSh x1 64) (h2 : 0 ≤ ((8 * x2) + x4) ∧ ((8 * x2) + x4) < 64) (h3 : 0 ≤ ((8 * x2) + x3) ∧ ((8 * x2) + x3) < 64) (h4 : 0 ≤ ((8 * x3) + x4) ∧ ((8 * x3) + x4) < 64) (k : XCi d 71 [.inr (.inr 1), .inl (ld M x1 ((8 * x2) + x3)), .inl (ld M x1 ((8 * x3) + x4))] M (fun v M' => XW kX8_pass (d + 1) (some .int) (wQi Q) 37 [some (.inr (.inr 21)), some (.inr (.inr x1)), some (.inl x2), some (.inl x3), some (.inl x4), some (.inl (ld M x1 ((8 * x2) + x4))), none] [.inl v, .inl (ld M x1 ((8 * x2) + x4))] M')) : XW kX8_pass (d + 1) (some .int) (wQi Q) 0 [some (.inr (.inr 21)), some (.inr (.inr x1)), some (.inl x2), some (.inl x3), some (.inl x4), none, none] [] M := by
  refine x_aload_n rfl rfl ?_
  refine x_bipush 8 rfl (by decide) ?_
  refine x_iload_n rfl rfl ?_
  refine x_imul rfl ?_
  refine x_iload rfl rfl ?_
  refine x_iadd rfl ?_
  refine x_iaload rfl h1 h2 ?_
  refine x_istore rfl (Nat.le_of_ble_eq_true rfl) rfl ?_
  refine x_iload rfl rfl ?_
  refine x_aload_n rfl rfl ?_
  refine x_getR rfl sh21 rfl ?_
  refine x_aload_n rfl rfl ?_
  refine x_bipush 8 rfl (by decide) ?_
  refine x_iload_n rfl rfl ?_
  refine x_imul rfl ?_
  refine x_iload_n rfl rfl ?_
  refine x_iadd rfl ?_
  refine x_iaload rfl h1 h3 ?_
  refine x_aload_n rfl rfl ?_
  refine x_bipush 8 rfl (by decide) ?_
  refine x_iload_n rfl rfl ?_
  refine x_imul rfl ?_
  refine x_iload rfl rfl ?_
  refine x_iadd rfl ?_
  refine x_iaload rfl h1 h4 ?_
  exact x_calli (args := [.inr (.inr 1), .inl (ld M x1 ((8 * x2) + x3)), .inl (ld M x1 ((8 * x3) + x4))]) rfl rfl rfl k
theorem uX8_pass_37 {d : Nat} {Q : Int → yM → Prop} {M : yM} {x1 : Nat} {x2 : Int} {x3 : Int} {x4 : Int} {x5 : Int} {s0 : Int} {s1 : Int} (h1 : -2147483648 ≤ x5 ∧ x5 < 2147483648) (kt : (yand s1 s0) ≠ x5 → XW kX8_pass d (some .int) (wQi Q) 49 [some (.inr (.inr 21)), some (.inr (.inr x1)), some (.inl x2), some (.inl x3), some (.inl x4), some (.inl x5), some (.inl (yand s1 s0))] [] M) (kf : (yand s1 s0) = x5 → XW kX8_pass d (some .int) (wQi Q) 47 [some (.inr (.inr 21)), some (.inr (.inr x1)), some (.inl x2), some (.inl x3), some (.inl x4), some (.inl x5), some (.inl (yand s1 s0))] [] M) : XW kX8_pass d (some .int) (wQi Q) 37 [some (.inr (.inr 21)), some (.inr (.inr x1)), some (.inl x2), some (.inl x3), some (.inl x4), some (.inl x5), none] [.inl s0, .inl s1] M := by
  refine x_iand rfl ?_
  refine x_istore rfl (Nat.le_of_ble_eq_true rfl) rfl ?_
  refine x_iload rfl rfl ?_
  refine x_iload rfl rfl ?_
  exact x_icmpne rfl (rng_yand _ _) h1 kt kf
theorem uX8_pass_47 {d : Nat} {Q : Int → yM → Prop} {M : yM} {x1 : Nat} {x2 : Int} {x3 : Int} {x4 : Int} {x5 : Int} {x6 : Int} (k : Q (-1) M) : XW kX8_pass d (some .int) (wQi Q) 47 [some (.inr (.inr 21)), some (.inr (.inr x1)), some (.inl x2), some (.inl x3), some (.inl x4), some (.inl x5), some (.inl x6)] [] M := by
  refine x_iconst (-1) rfl (by decide) ?_
  exact x_ireturn rfl k
theorem uX8_pass_49 {d : Nat} {Q : Int → yM → Prop} {M : yM} {x1 : Nat} {x2 : Int} {x3 : Int} {x4 : Int} {x5 : Int} {x6 : Int} (h1 : arrSh x1 64) (h2 : 0 ≤ ((8 * x2) + x4) ∧ ((8 * x2) + x4) < 64) (k : ∀ M', M' = (put M x1 ((8 * x2) + x4) x6) → XW kX8_pass d (some .int) (wQi Q) 60 [some (.inr (.inr 21)), some (.inr (.inr x1)), some (.inl x2), some (.inl x3), some (.inl x4), some (.inl x5), some (.inl x6)] [] M') : XW kX8_pass d (some .int) (wQi Q) 49 [some (.inr (.inr 21)), some (.inr (.inr x1)), some (.inl x2), some (.inl x3), some (.inl x4), some (.inl x5), some (.inl x6)] [] M := by
  refine x_aload_n rfl rfl ?_
  refine x_bipush 8 rfl (by decide) ?_
  refine x_iload_n rfl rfl ?_
  refine x_imul rfl ?_
  refine x_iload rfl rfl ?_
  refine x_iadd rfl ?_
  refine x_iload rfl rfl ?_
  refine x_iastore rfl h1 h2  ?_
  exact k _ rfl
theorem uX8_pass_60 {d : Nat} {Q : Int → yM → Prop} {M : yM} {x1 : Nat} {x2 : Int} {x3 : Int} {x4 : Int} {x5 : Int} {x6 : Int} (k : XCi d 70 [.inr (.inr 1), .inl x6] M (fun v M' => XW kX8_pass (d + 1) (some .int) (wQi Q) 77 [some (.inr (.inr 21)), some (.inr (.inr x1)), some (.inl x2), some (.inl x3), some (.inl x4), some (.inl x5), some (.inl x6)] [.inl v, .inl ((8 * x4) + x2), .inr (.inr x1)] M')) : XW kX8_pass (d + 1) (some .int) (wQi Q) 60 [some (.inr (.inr 21)), some (.inr (.inr x1)), some (.inl x2), some (.inl x3), some (.inl x4), some (.inl x5), some (.inl x6)] [] M := by
  refine x_aload_n rfl rfl ?_
  refine x_bipush 8 rfl (by decide) ?_
  refine x_iload rfl rfl ?_
  refine x_imul rfl ?_
  refine x_iload_n rfl rfl ?_
  refine x_iadd rfl ?_
  refine x_aload_n rfl rfl ?_
  refine x_getR rfl sh21 rfl ?_
  refine x_iload rfl rfl ?_
  exact x_calli (args := [.inr (.inr 1), .inl x6]) rfl rfl rfl k
theorem uX8_pass_77 {d : Nat} {Q : Int → yM → Prop} {M : yM} {x1 : Nat} {x2 : Int} {x3 : Int} {x4 : Int} {x5 : Int} {x6 : Int} {s0 : Int} {s1 : Int} {s2 : Nat} (h1 : arrSh s2 64) (h2 : 0 ≤ s1 ∧ s1 < 64) (k : ∀ M', M' = (put M s2 s1 s0) → XW kX8_pass d (some .int) (wQi Q) 78 [some (.inr (.inr 21)), some (.inr (.inr x1)), some (.inl x2), some (.inl x3), some (.inl x4), some (.inl x5), some (.inl x6)] [] M') : XW kX8_pass d (some .int) (wQi Q) 77 [some (.inr (.inr 21)), some (.inr (.inr x1)), some (.inl x2), some (.inl x3), some (.inl x4), some (.inl x5), some (.inl x6)] [.inl s0, .inl s1, .inr (.inr s2)] M := by
  refine x_iastore rfl h1 h2  ?_
  exact k _ rfl
theorem uX8_pass_78 {d : Nat} {Q : Int → yM → Prop} {M : yM} {x1 : Nat} {x2 : Int} {x3 : Int} {x4 : Int} {x5 : Int} {x6 : Int} (k : Q x6 M) : XW kX8_pass d (some .int) (wQi Q) 78 [some (.inr (.inr 21)), some (.inr (.inr x1)), some (.inl x2), some (.inl x3), some (.inl x4), some (.inl x5), some (.inl x6)] [] M := by
  refine x_iload rfl rfl ?_
  exact x_ireturn rfl k
theorem eX8_settles {d : Nat} {Q : Int → yM → Prop} {M : yM} {x1 : Nat} {x2 : Int} {x3 : Int}  (h : XW kX8_settles d (some .boolean) (wQi Q) 0 [some (.inr (.inr 21)), some (.inr (.inr x1)), some (.inl x2), some (.inr (.inl x3)), none, none, none, none, none, none, none, none, none, none] [] M) : XCi d 57 [.inr (.inr 21), .inr (.inr x1), .inl x2, .inr (.inl x3)] M Q :=
  XC.ofW (Mm := (yX8_settles, cX8_settles, 14, (some .boolean), 9, kX8_settles)) rfl (rcv_ok sh21) rfl rfl h
theorem uX8_settles_0 {d : Nat} {Q : Int → yM → Prop} {M : yM} {x1 : Nat} {x2 : Int} {x3 : Int} (k : XW kX8_settles d (some .boolean) (wQi Q) 6 [some (.inr (.inr 21)), some (.inr (.inr x1)), some (.inl x2), some (.inr (.inl x3)), none, some (.inr (.inl x3)), none, some (.inl 0), none, none, none, none, none, none] [] M) : XW kX8_settles d (some .boolean) (wQi Q) 0 [some (.inr (.inr 21)), some (.inr (.inr x1)), some (.inl x2), some (.inr (.inl x3)), none, none, none, none, none, none, none, none, none, none] [] M := by
  refine x_lload_n rfl rfl ?_
  refine x_lstore rfl (Nat.le_of_ble_eq_true rfl) rfl ?_
  refine x_iconst 0 rfl (by decide) ?_
  refine x_istore rfl (Nat.le_of_ble_eq_true rfl) rfl ?_
  exact k
theorem uX8_settles_6 {d : Nat} {Q : Int → yM → Prop} {M : yM} {x1 : Nat} {x2 : Int} {x3 : Int} {x5 : Int} {x7 : Int} {wx8 : Option yV} {wx9 : Option yV} {wx10 : Option yV} {wx11 : Option yV} {wx12 : Option yV} {wx13 : Option yV} (h1 : -2147483648 ≤ (zcmp x5 0) ∧ (zcmp x5 0) < 2147483648) (kt : (zcmp x5 0) = 0 → XW kX8_settles d (some .boolean) (wQi Q) 166 [some (.inr (.inr 21)), some (.inr (.inr x1)), some (.inl x2), some (.inr (.inl x3)), none, some (.inr (.inl x5)), none, some (.inl x7), wx8, wx9, wx10, wx11, wx12, wx13] [] M) (kf : (zcmp x5 0) ≠ 0 → XW kX8_settles d (some .boolean) (wQi Q) 13 [some (.inr (.inr 21)), some (.inr (.inr x1)), some (.inl x2), some (.inr (.inl x3)), none, some (.inr (.inl x5)), none, some (.inl x7), wx8, wx9, wx10, wx11, wx12, wx13] [] M) : XW kX8_settles d (some .boolean) (wQi Q) 6 [some (.inr (.inr 21)), some (.inr (.inr x1)), some (.inl x2), some (.inr (.inl x3)), none, some (.inr (.inl x5)), none, some (.inl x7), wx8, wx9, wx10, wx11, wx12, wx13] [] M := by
  refine x_lload rfl rfl ?_
  refine x_lconst 0 rfl (by decide) ?_
  refine x_lcmp rfl ?_
  exact x_ifeq rfl h1 kt kf
theorem uX8_settles_13 {d : Nat} {Q : Int → yM → Prop} {M : yM} {x1 : Nat} {x2 : Int} {x3 : Int} {x5 : Int} {x7 : Int} {wx8 : Option yV} {wx9 : Option yV} {wx10 : Option yV} {wx11 : Option yV} {wx12 : Option yV} {wx13 : Option yV} (h1 : -2147483648 ≤ x7 ∧ x7 < 2147483648) (kt : x7 ≥ 1000 → XW kX8_settles d (some .boolean) (wQi Q) 166 [some (.inr (.inr 21)), some (.inr (.inr x1)), some (.inl x2), some (.inr (.inl x3)), none, some (.inr (.inl x5)), none, some (.inl x7), wx8, wx9, wx10, wx11, wx12, wx13] [] M) (kf : x7 < 1000 → XW kX8_settles d (some .boolean) (wQi Q) 21 [some (.inr (.inr 21)), some (.inr (.inr x1)), some (.inl x2), some (.inr (.inl x3)), none, some (.inr (.inl x5)), none, some (.inl x7), wx8, wx9, wx10, wx11, wx12, wx13] [] M) : XW kX8_settles d (some .boolean) (wQi Q) 13 [some (.inr (.inr 21)), some (.inr (.inr x1)), some (.inl x2), some (.inr (.inl x3)), none, some (.inr (.inl x5)), none, some (.inl x7), wx8, wx9, wx10, wx11, wx12, wx13] [] M := by
  refine x_iload rfl rfl ?_
  refine x_sipush 1000 rfl (by decide) ?_
  exact x_icmpge rfl h1 (by decide) kt kf
theorem uX8_settles_21 {d : Nat} {Q : Int → yM → Prop} {M : yM} {x1 : Nat} {x2 : Int} {x3 : Int} {x5 : Int} {x7 : Int} {wx8 : Option yV} {wx9 : Option yV} {wx10 : Option yV} {wx11 : Option yV} {wx12 : Option yV} {wx13 : Option yV} (k : XCi d 180 [.inr (.inl ((zand x5 (-x5)) - 1))] M (fun v M' => XW kX8_settles (d + 1) (some .boolean) (wQi Q) 32 [some (.inr (.inr 21)), some (.inr (.inr x1)), some (.inl x2), some (.inr (.inl x3)), none, some (.inr (.inl x5)), none, some (.inl x7), wx8, wx9, wx10, wx11, wx12, wx13] [.inl v] M')) : XW kX8_settles (d + 1) (some .boolean) (wQi Q) 21 [some (.inr (.inr 21)), some (.inr (.inr x1)), some (.inl x2), some (.inr (.inl x3)), none, some (.inr (.inl x5)), none, some (.inl x7), wx8, wx9, wx10, wx11, wx12, wx13] [] M := by
  refine x_lload rfl rfl ?_
  refine x_lload rfl rfl ?_
  refine x_lneg rfl ?_
  refine x_land rfl ?_
  refine x_lconst 1 rfl (by decide) ?_
  refine x_lsub rfl ?_
  exact x_calli (args := [.inr (.inl ((zand x5 (-x5)) - 1))]) rfl rfl rfl k
theorem uX8_settles_32 {d : Nat} {Q : Int → yM → Prop} {M : yM} {x1 : Nat} {x2 : Int} {x3 : Int} {x5 : Int} {x7 : Int} {wx8 : Option yV} {wx9 : Option yV} {wx10 : Option yV} {wx11 : Option yV} {wx12 : Option yV} {wx13 : Option yV} {s0 : Int} (k : XW kX8_settles d (some .boolean) (wQi Q) 59 [some (.inr (.inr 21)), some (.inr (.inr x1)), some (.inl x2), some (.inr (.inl x3)), none, some (.inr (.inl (zand x5 (x5 - 1)))), none, some (.inl x7), some (.inl s0), some (.inl (yshr s0 3)), some (.inl (yand s0 7)), some (.inl 0), wx12, wx13] [] M) : XW kX8_settles d (some .boolean) (wQi Q) 32 [some (.inr (.inr 21)), some (.inr (.inr x1)), some (.inl x2), some (.inr (.inl x3)), none, some (.inr (.inl x5)), none, some (.inl x7), wx8, wx9, wx10, wx11, wx12, wx13] [.inl s0] M := by
  refine x_istore rfl (Nat.le_of_ble_eq_true rfl) rfl ?_
  refine x_lload rfl rfl ?_
  refine x_lload rfl rfl ?_
  refine x_lconst 1 rfl (by decide) ?_
  refine x_lsub rfl ?_
  refine x_land rfl ?_
  refine x_lstore rfl (Nat.le_of_ble_eq_true rfl) rfl ?_
  refine x_iload rfl rfl ?_
  refine x_iconst 3 rfl (by decide) ?_
  refine x_ishr rfl ?_
  refine x_istore rfl (Nat.le_of_ble_eq_true rfl) rfl ?_
  refine x_iload rfl rfl ?_
  refine x_bipush 7 rfl (by decide) ?_
  refine x_iand rfl ?_
  refine x_istore rfl (Nat.le_of_ble_eq_true rfl) rfl ?_
  refine x_iconst 0 rfl (by decide) ?_
  refine x_istore rfl (Nat.le_of_ble_eq_true rfl) rfl ?_
  exact k
theorem uX8_settles_59 {d : Nat} {Q : Int → yM → Prop} {M : yM} {x1 : Nat} {x2 : Int} {x3 : Int} {x5 : Int} {x7 : Int} {x8 : Int} {x9 : Int} {x10 : Int} {x11 : Int} {wx12 : Option yV} {wx13 : Option yV} (h1 : -2147483648 ≤ x11 ∧ x11 < 2147483648) (h2 : -2147483648 ≤ x2 ∧ x2 < 2147483648) (kt : x11 ≥ x2 → XW kX8_settles d (some .boolean) (wQi Q) 160 [some (.inr (.inr 21)), some (.inr (.inr x1)), some (.inl x2), some (.inr (.inl x3)), none, some (.inr (.inl x5)), none, some (.inl x7), some (.inl x8), some (.inl x9), some (.inl x10), some (.inl x11), wx12, wx13] [] M) (kf : x11 < x2 → XW kX8_settles d (some .boolean) (wQi Q) 65 [some (.inr (.inr 21)), some (.inr (.inr x1)), some (.inl x2), some (.inr (.inl x3)), none, some (.inr (.inl x5)), none, some (.inl x7), some (.inl x8), some (.inl x9), some (.inl x10), some (.inl x11), wx12, wx13] [] M) : XW kX8_settles d (some .boolean) (wQi Q) 59 [some (.inr (.inr 21)), some (.inr (.inr x1)), some (.inl x2), some (.inr (.inl x3)), none, some (.inr (.inl x5)), none, some (.inl x7), some (.inl x8), some (.inl x9), some (.inl x10), some (.inl x11), wx12, wx13] [] M := by
  refine x_iload rfl rfl ?_
  refine x_iload_n rfl rfl ?_
  exact x_icmpge rfl h1 h2 kt kf
theorem uX8_settles_65 {d : Nat} {Q : Int → yM → Prop} {M : yM} {x1 : Nat} {x2 : Int} {x3 : Int} {x5 : Int} {x7 : Int} {x8 : Int} {x9 : Int} {x10 : Int} {x11 : Int} {wx12 : Option yV} {wx13 : Option yV} (h1 : -2147483648 ≤ x11 ∧ x11 < 2147483648) (h2 : -2147483648 ≤ x9 ∧ x9 < 2147483648) (kt : x11 = x9 → XW kX8_settles d (some .boolean) (wQi Q) 154 [some (.inr (.inr 21)), some (.inr (.inr x1)), some (.inl x2), some (.inr (.inl x3)), none, some (.inr (.inl x5)), none, some (.inl x7), some (.inl x8), some (.inl x9), some (.inl x10), some (.inl x11), wx12, wx13] [] M) (kf : x11 ≠ x9 → XW kX8_settles d (some .boolean) (wQi Q) 72 [some (.inr (.inr 21)), some (.inr (.inr x1)), some (.inl x2), some (.inr (.inl x3)), none, some (.inr (.inl x5)), none, some (.inl x7), some (.inl x8), some (.inl x9), some (.inl x10), some (.inl x11), wx12, wx13] [] M) : XW kX8_settles d (some .boolean) (wQi Q) 65 [some (.inr (.inr 21)), some (.inr (.inr x1)), some (.inl x2), some (.inr (.inl x3)), none, some (.inr (.inl x5)), none, some (.inl x7), some (.inl x8), some (.inl x9), some (.inl x10), some (.inl x11), wx12, wx13] [] M := by
  refine x_iload rfl rfl ?_
  refine x_iload rfl rfl ?_
  exact x_icmpeq rfl h1 h2 kt kf
theorem uX8_settles_72 {d : Nat} {Q : Int → yM → Prop} {M : yM} {x1 : Nat} {x2 : Int} {x3 : Int} {x5 : Int} {x7 : Int} {x8 : Int} {x9 : Int} {x10 : Int} {x11 : Int} {wx12 : Option yV} {wx13 : Option yV} (h1 : -2147483648 ≤ x11 ∧ x11 < 2147483648) (h2 : -2147483648 ≤ x10 ∧ x10 < 2147483648) (kt : x11 ≠ x10 → XW kX8_settles d (some .boolean) (wQi Q) 82 [some (.inr (.inr 21)), some (.inr (.inr x1)), some (.inl x2), some (.inr (.inl x3)), none, some (.inr (.inl x5)), none, some (.inl x7), some (.inl x8), some (.inl x9), some (.inl x10), some (.inl x11), wx12, wx13] [] M) (kf : x11 = x10 → XW kX8_settles d (some .boolean) (wQi Q) 79 [some (.inr (.inr 21)), some (.inr (.inr x1)), some (.inl x2), some (.inr (.inl x3)), none, some (.inr (.inl x5)), none, some (.inl x7), some (.inl x8), some (.inl x9), some (.inl x10), some (.inl x11), wx12, wx13] [] M) : XW kX8_settles d (some .boolean) (wQi Q) 72 [some (.inr (.inr 21)), some (.inr (.inr x1)), some (.inl x2), some (.inr (.inl x3)), none, some (.inr (.inl x5)), none, some (.inl x7), some (.inl x8), some (.inl x9), some (.inl x10), some (.inl x11), wx12, wx13] [] M := by
  refine x_iload rfl rfl ?_
  refine x_iload rfl rfl ?_
  exact x_icmpne rfl h1 h2 kt kf
theorem uX8_settles_79 {d : Nat} {Q : Int → yM → Prop} {M : yM} {x1 : Nat} {x2 : Int} {x3 : Int} {x5 : Int} {x7 : Int} {x8 : Int} {x9 : Int} {x10 : Int} {x11 : Int} {wx12 : Option yV} {wx13 : Option yV} (k : XW kX8_settles d (some .boolean) (wQi Q) 154 [some (.inr (.inr 21)), some (.inr (.inr x1)), some (.inl x2), some (.inr (.inl x3)), none, some (.inr (.inl x5)), none, some (.inl x7), some (.inl x8), some (.inl x9), some (.inl x10), some (.inl x11), wx12, wx13] [] M) : XW kX8_settles d (some .boolean) (wQi Q) 79 [some (.inr (.inr 21)), some (.inr (.inr x1)), some (.inl x2), some (.inr (.inl x3)), none, some (.inr (.inl x5)), none, some (.inl x7), some (.inl x8), some (.inl x9), some (.inl x10), some (.inl x11), wx12, wx13] [] M := by
  exact x_goto rfl k
theorem uX8_settles_82 {d : Nat} {Q : Int → yM → Prop} {M : yM} {x1 : Nat} {x2 : Int} {x3 : Int} {x5 : Int} {x7 : Int} {x8 : Int} {x9 : Int} {x10 : Int} {x11 : Int} {wx12 : Option yV} {wx13 : Option yV} (k : XCi d 56 [.inr (.inr 21), .inr (.inr x1), .inl x9, .inl x10, .inl x11] M (fun v M' => XW kX8_settles (d + 1) (some .boolean) (wQi Q) 93 [some (.inr (.inr 21)), some (.inr (.inr x1)), some (.inl x2), some (.inr (.inl x3)), none, some (.inr (.inl x5)), none, some (.inl x7), some (.inl x8), some (.inl x9), some (.inl x10), some (.inl x11), wx12, wx13] [.inl v] M')) : XW kX8_settles (d + 1) (some .boolean) (wQi Q) 82 [some (.inr (.inr 21)), some (.inr (.inr x1)), some (.inl x2), some (.inr (.inl x3)), none, some (.inr (.inl x5)), none, some (.inl x7), some (.inl x8), some (.inl x9), some (.inl x10), some (.inl x11), wx12, wx13] [] M := by
  refine x_aload_n rfl rfl ?_
  refine x_aload_n rfl rfl ?_
  refine x_iload rfl rfl ?_
  refine x_iload rfl rfl ?_
  refine x_iload rfl rfl ?_
  exact x_calli (args := [.inr (.inr 21), .inr (.inr x1), .inl x9, .inl x10, .inl x11]) rfl rfl rfl k
theorem uX8_settles_93 {d : Nat} {Q : Int → yM → Prop} {M : yM} {x1 : Nat} {x2 : Int} {x3 : Int} {x5 : Int} {x7 : Int} {x8 : Int} {x9 : Int} {x10 : Int} {x11 : Int} {wx12 : Option yV} {wx13 : Option yV} {s0 : Int} (k : XCi d 56 [.inr (.inr 21), .inr (.inr x1), .inl x10, .inl x9, .inl x11] M (fun v M' => XW kX8_settles (d + 1) (some .boolean) (wQi Q) 106 [some (.inr (.inr 21)), some (.inr (.inr x1)), some (.inl x2), some (.inr (.inl x3)), none, some (.inr (.inl x5)), none, some (.inl x7), some (.inl x8), some (.inl x9), some (.inl x10), some (.inl x11), some (.inl s0), wx13] [.inl v] M')) : XW kX8_settles (d + 1) (some .boolean) (wQi Q) 93 [some (.inr (.inr 21)), some (.inr (.inr x1)), some (.inl x2), some (.inr (.inl x3)), none, some (.inr (.inl x5)), none, some (.inl x7), some (.inl x8), some (.inl x9), some (.inl x10), some (.inl x11), wx12, wx13] [.inl s0] M := by
  refine x_istore rfl (Nat.le_of_ble_eq_true rfl) rfl ?_
  refine x_aload_n rfl rfl ?_
  refine x_aload_n rfl rfl ?_
  refine x_iload rfl rfl ?_
  refine x_iload rfl rfl ?_
  refine x_iload rfl rfl ?_
  exact x_calli (args := [.inr (.inr 21), .inr (.inr x1), .inl x10, .inl x9, .inl x11]) rfl rfl rfl k
theorem uX8_settles_106 {d : Nat} {Q : Int → yM → Prop} {M : yM} {x1 : Nat} {x2 : Int} {x3 : Int} {x5 : Int} {x7 : Int} {x8 : Int} {x9 : Int} {x10 : Int} {x11 : Int} {x12 : Int} {wx13 : Option yV} {s0 : Int} (h1 : -2147483648 ≤ x12 ∧ x12 < 2147483648) (kt : x12 = 0 → XW kX8_settles d (some .boolean) (wQi Q) 118 [some (.inr (.inr 21)), some (.inr (.inr x1)), some (.inl x2), some (.inr (.inl x3)), none, some (.inr (.inl x5)), none, some (.inl x7), some (.inl x8), some (.inl x9), some (.inl x10), some (.inl x11), some (.inl x12), some (.inl s0)] [] M) (kf : x12 ≠ 0 → XW kX8_settles d (some .boolean) (wQi Q) 113 [some (.inr (.inr 21)), some (.inr (.inr x1)), some (.inl x2), some (.inr (.inl x3)), none, some (.inr (.inl x5)), none, some (.inl x7), some (.inl x8), some (.inl x9), some (.inl x10), some (.inl x11), some (.inl x12), some (.inl s0)] [] M) : XW kX8_settles d (some .boolean) (wQi Q) 106 [some (.inr (.inr 21)), some (.inr (.inr x1)), some (.inl x2), some (.inr (.inl x3)), none, some (.inr (.inl x5)), none, some (.inl x7), some (.inl x8), some (.inl x9), some (.inl x10), some (.inl x11), some (.inl x12), wx13] [.inl s0] M := by
  refine x_istore rfl (Nat.le_of_ble_eq_true rfl) rfl ?_
  refine x_iload rfl rfl ?_
  exact x_ifeq rfl h1 kt kf
theorem uX8_settles_113 {d : Nat} {Q : Int → yM → Prop} {M : yM} {x1 : Nat} {x2 : Int} {x3 : Int} {x5 : Int} {x7 : Int} {x8 : Int} {x9 : Int} {x10 : Int} {x11 : Int} {x12 : Int} {x13 : Int} (h1 : -2147483648 ≤ x13 ∧ x13 < 2147483648) (kt : x13 ≠ 0 → XW kX8_settles d (some .boolean) (wQi Q) 120 [some (.inr (.inr 21)), some (.inr (.inr x1)), some (.inl x2), some (.inr (.inl x3)), none, some (.inr (.inl x5)), none, some (.inl x7), some (.inl x8), some (.inl x9), some (.inl x10), some (.inl x11), some (.inl x12), some (.inl x13)] [] M) (kf : x13 = 0 → XW kX8_settles d (some .boolean) (wQi Q) 118 [some (.inr (.inr 21)), some (.inr (.inr x1)), some (.inl x2), some (.inr (.inl x3)), none, some (.inr (.inl x5)), none, some (.inl x7), some (.inl x8), some (.inl x9), some (.inl x10), some (.inl x11), some (.inl x12), some (.inl x13)] [] M) : XW kX8_settles d (some .boolean) (wQi Q) 113 [some (.inr (.inr 21)), some (.inr (.inr x1)), some (.inl x2), some (.inr (.inl x3)), none, some (.inr (.inl x5)), none, some (.inl x7), some (.inl x8), some (.inl x9), some (.inl x10), some (.inl x11), some (.inl x12), some (.inl x13)] [] M := by
  refine x_iload rfl rfl ?_
  exact x_ifne rfl h1 kt kf
theorem uX8_settles_118 {d : Nat} {Q : Int → yM → Prop} {M : yM} {x1 : Nat} {x2 : Int} {x3 : Int} {x5 : Int} {x7 : Int} {x8 : Int} {x9 : Int} {x10 : Int} {x11 : Int} {x12 : Int} {x13 : Int} (k : Q 0 M) : XW kX8_settles d (some .boolean) (wQi Q) 118 [some (.inr (.inr 21)), some (.inr (.inr x1)), some (.inl x2), some (.inr (.inl x3)), none, some (.inr (.inl x5)), none, some (.inl x7), some (.inl x8), some (.inl x9), some (.inl x10), some (.inl x11), some (.inl x12), some (.inl x13)] [] M := by
  refine x_iconst 0 rfl (by decide) ?_
  exact x_zreturn rfl (by decide) k
theorem uX8_settles_120 {d : Nat} {Q : Int → yM → Prop} {M : yM} {x1 : Nat} {x2 : Int} {x3 : Int} {x5 : Int} {x7 : Int} {x8 : Int} {x9 : Int} {x10 : Int} {x11 : Int} {x12 : Int} {x13 : Int} (h1 : -2147483648 ≤ x12 ∧ x12 < 2147483648) (kt : x12 ≤ 0 → XW kX8_settles d (some .boolean) (wQi Q) 137 [some (.inr (.inr 21)), some (.inr (.inr x1)), some (.inl x2), some (.inr (.inl x3)), none, some (.inr (.inl x5)), none, some (.inl x7), some (.inl x8), some (.inl x9), some (.inl x10), some (.inl x11), some (.inl x12), some (.inl x13)] [] M) (kf : x12 > 0 → XW kX8_settles d (some .boolean) (wQi Q) 125 [some (.inr (.inr 21)), some (.inr (.inr x1)), some (.inl x2), some (.inr (.inl x3)), none, some (.inr (.inl x5)), none, some (.inl x7), some (.inl x8), some (.inl x9), some (.inl x10), some (.inl x11), some (.inl x12), some (.inl x13)] [] M) : XW kX8_settles d (some .boolean) (wQi Q) 120 [some (.inr (.inr 21)), some (.inr (.inr x1)), some (.inl x2), some (.inr (.inl x3)), none, some (.inr (.inl x5)), none, some (.inl x7), some (.inl x8), some (.inl x9), some (.inl x10), some (.inl x11), some (.inl x12), some (.inl x13)] [] M := by
  refine x_iload rfl rfl ?_
  exact x_ifle rfl h1 kt kf
theorem uX8_settles_125 {d : Nat} {Q : Int → yM → Prop} {M : yM} {x1 : Nat} {x2 : Int} {x3 : Int} {x5 : Int} {x7 : Int} {x8 : Int} {x9 : Int} {x10 : Int} {x11 : Int} {x12 : Int} {x13 : Int} (k : XCl d 118 [.inl x9, .inl x11] M (fun v M' => XW kX8_settles (d + 1) (some .boolean) (wQi Q) 134 [some (.inr (.inr 21)), some (.inr (.inr x1)), some (.inl x2), some (.inr (.inl x3)), none, some (.inr (.inl x5)), none, some (.inl x7), some (.inl x8), some (.inl x9), some (.inl x10), some (.inl x11), some (.inl x12), some (.inl x13)] [.inr (.inl v), .inr (.inl x5)] M')) : XW kX8_settles (d + 1) (some .boolean) (wQi Q) 125 [some (.inr (.inr 21)), some (.inr (.inr x1)), some (.inl x2), some (.inr (.inl x3)), none, some (.inr (.inl x5)), none, some (.inl x7), some (.inl x8), some (.inl x9), some (.inl x10), some (.inl x11), some (.inl x12), some (.inl x13)] [] M := by
  refine x_lload rfl rfl ?_
  refine x_iload rfl rfl ?_
  refine x_iload rfl rfl ?_
  exact x_calll (args := [.inl x9, .inl x11]) rfl rfl rfl k
theorem uX8_settles_134 {d : Nat} {Q : Int → yM → Prop} {M : yM} {x1 : Nat} {x2 : Int} {x3 : Int} {x5 : Int} {x7 : Int} {x8 : Int} {x9 : Int} {x10 : Int} {x11 : Int} {x12 : Int} {x13 : Int} {s0 : Int} {s1 : Int} (k : XW kX8_settles d (some .boolean) (wQi Q) 137 [some (.inr (.inr 21)), some (.inr (.inr x1)), some (.inl x2), some (.inr (.inl x3)), none, some (.inr (.inl (zor s1 s0))), none, some (.inl x7), some (.inl x8), some (.inl x9), some (.inl x10), some (.inl x11), some (.inl x12), some (.inl x13)] [] M) : XW kX8_settles d (some .boolean) (wQi Q) 134 [some (.inr (.inr 21)), some (.inr (.inr x1)), some (.inl x2), some (.inr (.inl x3)), none, some (.inr (.inl x5)), none, some (.inl x7), some (.inl x8), some (.inl x9), some (.inl x10), some (.inl x11), some (.inl x12), some (.inl x13)] [.inr (.inl s0), .inr (.inl s1)] M := by
  refine x_lor rfl ?_
  refine x_lstore rfl (Nat.le_of_ble_eq_true rfl) rfl ?_
  exact k
theorem uX8_settles_137 {d : Nat} {Q : Int → yM → Prop} {M : yM} {x1 : Nat} {x2 : Int} {x3 : Int} {x5 : Int} {x7 : Int} {x8 : Int} {x9 : Int} {x10 : Int} {x11 : Int} {x12 : Int} {x13 : Int} (h1 : -2147483648 ≤ x13 ∧ x13 < 2147483648) (kt : x13 ≤ 0 → XW kX8_settles d (some .boolean) (wQi Q) 154 [some (.inr (.inr 21)), some (.inr (.inr x1)), some (.inl x2), some (.inr (.inl x3)), none, some (.inr (.inl x5)), none, some (.inl x7), some (.inl x8), some (.inl x9), some (.inl x10), some (.inl x11), some (.inl x12), some (.inl x13)] [] M) (kf : x13 > 0 → XW kX8_settles d (some .boolean) (wQi Q) 142 [some (.inr (.inr 21)), some (.inr (.inr x1)), some (.inl x2), some (.inr (.inl x3)), none, some (.inr (.inl x5)), none, some (.inl x7), some (.inl x8), some (.inl x9), some (.inl x10), some (.inl x11), some (.inl x12), some (.inl x13)] [] M) : XW kX8_settles d (some .boolean) (wQi Q) 137 [some (.inr (.inr 21)), some (.inr (.inr x1)), some (.inl x2), some (.inr (.inl x3)), none, some (.inr (.inl x5)), none, some (.inl x7), some (.inl x8), some (.inl x9), some (.inl x10), some (.inl x11), some (.inl x12), some (.inl x13)] [] M := by
  refine x_iload rfl rfl ?_
  exact x_ifle rfl h1 kt kf
theorem uX8_settles_142 {d : Nat} {Q : Int → yM → Prop} {M : yM} {x1 : Nat} {x2 : Int} {x3 : Int} {x5 : Int} {x7 : Int} {x8 : Int} {x9 : Int} {x10 : Int} {x11 : Int} {x12 : Int} {x13 : Int} (k : XCl d 118 [.inl x10, .inl x11] M (fun v M' => XW kX8_settles (d + 1) (some .boolean) (wQi Q) 151 [some (.inr (.inr 21)), some (.inr (.inr x1)), some (.inl x2), some (.inr (.inl x3)), none, some (.inr (.inl x5)), none, some (.inl x7), some (.inl x8), some (.inl x9), some (.inl x10), some (.inl x11), some (.inl x12), some (.inl x13)] [.inr (.inl v), .inr (.inl x5)] M')) : XW kX8_settles (d + 1) (some .boolean) (wQi Q) 142 [some (.inr (.inr 21)), some (.inr (.inr x1)), some (.inl x2), some (.inr (.inl x3)), none, some (.inr (.inl x5)), none, some (.inl x7), some (.inl x8), some (.inl x9), some (.inl x10), some (.inl x11), some (.inl x12), some (.inl x13)] [] M := by
  refine x_lload rfl rfl ?_
  refine x_iload rfl rfl ?_
  refine x_iload rfl rfl ?_
  exact x_calll (args := [.inl x10, .inl x11]) rfl rfl rfl k
theorem uX8_settles_151 {d : Nat} {Q : Int → yM → Prop} {M : yM} {x1 : Nat} {x2 : Int} {x3 : Int} {x5 : Int} {x7 : Int} {x8 : Int} {x9 : Int} {x10 : Int} {x11 : Int} {x12 : Int} {x13 : Int} {s0 : Int} {s1 : Int} (k : XW kX8_settles d (some .boolean) (wQi Q) 154 [some (.inr (.inr 21)), some (.inr (.inr x1)), some (.inl x2), some (.inr (.inl x3)), none, some (.inr (.inl (zor s1 s0))), none, some (.inl x7), some (.inl x8), some (.inl x9), some (.inl x10), some (.inl x11), some (.inl x12), some (.inl x13)] [] M) : XW kX8_settles d (some .boolean) (wQi Q) 151 [some (.inr (.inr 21)), some (.inr (.inr x1)), some (.inl x2), some (.inr (.inl x3)), none, some (.inr (.inl x5)), none, some (.inl x7), some (.inl x8), some (.inl x9), some (.inl x10), some (.inl x11), some (.inl x12), some (.inl x13)] [.inr (.inl s0), .inr (.inl s1)] M := by
  refine x_lor rfl ?_
  refine x_lstore rfl (Nat.le_of_ble_eq_true rfl) rfl ?_
  exact k
theorem uX8_settles_154 {d : Nat} {Q : Int → yM → Prop} {M : yM} {x1 : Nat} {x2 : Int} {x3 : Int} {x5 : Int} {x7 : Int} {x8 : Int} {x9 : Int} {x10 : Int} {x11 : Int} {wx12 : Option yV} {wx13 : Option yV} (k : XW kX8_settles d (some .boolean) (wQi Q) 59 [some (.inr (.inr 21)), some (.inr (.inr x1)), some (.inl x2), some (.inr (.inl x3)), none, some (.inr (.inl x5)), none, some (.inl x7), some (.inl x8), some (.inl x9), some (.inl x10), some (.inl (x11 + 1)), wx12, wx13] [] M) : XW kX8_settles d (some .boolean) (wQi Q) 154 [some (.inr (.inr 21)), some (.inr (.inr x1)), some (.inl x2), some (.inr (.inl x3)), none, some (.inr (.inl x5)), none, some (.inl x7), some (.inl x8), some (.inl x9), some (.inl x10), some (.inl x11), wx12, wx13] [] M := by
  refine x_iinc 1 rfl (by decide) rfl rfl ?_
  exact x_goto rfl k
theorem uX8_settles_160 {d : Nat} {Q : Int → yM → Prop} {M : yM} {x1 : Nat} {x2 : Int} {x3 : Int} {x5 : Int} {x7 : Int} {x8 : Int} {x9 : Int} {x10 : Int} {x11 : Int} {wx12 : Option yV} {wx13 : Option yV} (k : XW kX8_settles d (some .boolean) (wQi Q) 6 [some (.inr (.inr 21)), some (.inr (.inr x1)), some (.inl x2), some (.inr (.inl x3)), none, some (.inr (.inl x5)), none, some (.inl (x7 + 1)), some (.inl x8), some (.inl x9), some (.inl x10), some (.inl x11), wx12, wx13] [] M) : XW kX8_settles d (some .boolean) (wQi Q) 160 [some (.inr (.inr 21)), some (.inr (.inr x1)), some (.inl x2), some (.inr (.inl x3)), none, some (.inr (.inl x5)), none, some (.inl x7), some (.inl x8), some (.inl x9), some (.inl x10), some (.inl x11), wx12, wx13] [] M := by
  refine x_iinc 1 rfl (by decide) rfl rfl ?_
  exact x_goto rfl k
theorem uX8_settles_166 {d : Nat} {Q : Int → yM → Prop} {M : yM} {x1 : Nat} {x2 : Int} {x3 : Int} {x5 : Int} {x7 : Int} {wx8 : Option yV} {wx9 : Option yV} {wx10 : Option yV} {wx11 : Option yV} {wx12 : Option yV} {wx13 : Option yV} (k : Q 1 M) : XW kX8_settles d (some .boolean) (wQi Q) 166 [some (.inr (.inr 21)), some (.inr (.inr x1)), some (.inl x2), some (.inr (.inl x3)), none, some (.inr (.inl x5)), none, some (.inl x7), wx8, wx9, wx10, wx11, wx12, wx13] [] M := by
  refine x_iconst 1 rfl (by decide) ?_
  exact x_zreturn rfl (by decide) k
theorem eX8_makeSingle {d : Nat} {Q : yM → Prop} {M : yM} {x1 : Nat} {x2 : Int} {x3 : Int}  (h : XW kX8_makeSingle d none (wQv Q) 0 [some (.inr (.inr 21)), some (.inr (.inr x1)), some (.inl x2), some (.inl x3), none] [] M) : XCv d 58 [.inr (.inr 21), .inr (.inr x1), .inl x2, .inl x3] M Q :=
  XC.ofW (Mm := (yX8_makeSingle, cX8_makeSingle, 5, none, 9, kX8_makeSingle)) rfl (rcv_ok sh21) rfl rfl h
theorem uX8_makeSingle_0 {d : Nat} {Q : yM → Prop} {M : yM} {x1 : Nat} {x2 : Int} {x3 : Int} (h1 : arrSh x1 64) (h2 : 0 ≤ x2 ∧ x2 < 64) (k : ∀ M', M' = (put M x1 x2 (yshl 1 x3)) → XW kX8_makeSingle d none (wQv Q) 19 [some (.inr (.inr 21)), some (.inr (.inr x1)), some (.inl x2), some (.inl x3), some (.inl ((8 * (yand x2 7)) + (yshr x2 3)))] [] M') : XW kX8_makeSingle d none (wQv Q) 0 [some (.inr (.inr 21)), some (.inr (.inr x1)), some (.inl x2), some (.inl x3), none] [] M := by
  refine x_bipush 8 rfl (by decide) ?_
  refine x_iload_n rfl rfl ?_
  refine x_bipush 7 rfl (by decide) ?_
  refine x_iand rfl ?_
  refine x_imul rfl ?_
  refine x_iload_n rfl rfl ?_
  refine x_iconst 3 rfl (by decide) ?_
  refine x_ishr rfl ?_
  refine x_iadd rfl ?_
  refine x_istore rfl (Nat.le_of_ble_eq_true rfl) rfl ?_
  refine x_aload_n rfl rfl ?_
  refine x_iload_n rfl rfl ?_
  refine x_iconst 1 rfl (by decide) ?_
  refine x_iload_n rfl rfl ?_
  refine x_ishl rfl ?_
  refine x_iastore rfl h1 h2  ?_
  exact k _ rfl
theorem uX8_makeSingle_19 {d : Nat} {Q : yM → Prop} {M : yM} {x1 : Nat} {x2 : Int} {x3 : Int} {x4 : Int} (k : XCi d 70 [.inr (.inr 1), .inl (yshl 1 x3)] M (fun v M' => XW kX8_makeSingle (d + 1) none (wQv Q) 32 [some (.inr (.inr 21)), some (.inr (.inr x1)), some (.inl x2), some (.inl x3), some (.inl x4)] [.inl v, .inl x4, .inr (.inr x1)] M')) : XW kX8_makeSingle (d + 1) none (wQv Q) 19 [some (.inr (.inr 21)), some (.inr (.inr x1)), some (.inl x2), some (.inl x3), some (.inl x4)] [] M := by
  refine x_aload_n rfl rfl ?_
  refine x_iload rfl rfl ?_
  refine x_aload_n rfl rfl ?_
  refine x_getR rfl sh21 rfl ?_
  refine x_iconst 1 rfl (by decide) ?_
  refine x_iload_n rfl rfl ?_
  refine x_ishl rfl ?_
  exact x_calli (args := [.inr (.inr 1), .inl (yshl 1 x3)]) rfl rfl rfl k
theorem uX8_makeSingle_32 {d : Nat} {Q : yM → Prop} {M : yM} {x1 : Nat} {x2 : Int} {x3 : Int} {x4 : Int} {s0 : Int} {s1 : Int} {s2 : Nat} (h1 : arrSh s2 64) (h2 : 0 ≤ s1 ∧ s1 < 64) (k : ∀ M', M' = (put M s2 s1 s0) → XW kX8_makeSingle d none (wQv Q) 33 [some (.inr (.inr 21)), some (.inr (.inr x1)), some (.inl x2), some (.inl x3), some (.inl x4)] [] M') : XW kX8_makeSingle d none (wQv Q) 32 [some (.inr (.inr 21)), some (.inr (.inr x1)), some (.inl x2), some (.inl x3), some (.inl x4)] [.inl s0, .inl s1, .inr (.inr s2)] M := by
  refine x_iastore rfl h1 h2  ?_
  exact k _ rfl
theorem uX8_makeSingle_33 {d : Nat} {Q : yM → Prop} {M : yM} {x1 : Nat} {x2 : Int} {x3 : Int} {x4 : Int} (k : Q M) : XW kX8_makeSingle d none (wQv Q) 33 [some (.inr (.inr 21)), some (.inr (.inr x1)), some (.inl x2), some (.inl x3), some (.inl x4)] [] M := by
  exact x_return rfl k
theorem eX9_all {d : Nat} {Q : Int → yM → Prop} {M : yM}   (h : XW kX9_all d (some .int) (wQi Q) 0 [some (.inr (.inr 1))] [] M) : XCi d 60 [.inr (.inr 1)] M Q :=
  XC.ofW (Mm := (yX9_all, cX9_all, 1, (some .int), 10, kX9_all)) rfl (rcv_ok sh1) rfl rfl h
theorem uX9_all_0 {d : Nat} {Q : Int → yM → Prop} {M : yM}  (k : Q ((yshl 1 (ld M 1 0)) - 1) M) : XW kX9_all d (some .int) (wQi Q) 0 [some (.inr (.inr 1))] [] M := by
  refine x_iconst 1 rfl (by decide) ?_
  refine x_aload_n rfl rfl ?_
  refine x_getI rfl sh1 rfl ?_
  refine x_ishl rfl ?_
  refine x_iconst 1 rfl (by decide) ?_
  refine x_isub rfl ?_
  exact x_ireturn rfl k
theorem eX9_hasSet {d : Nat} {Q : Int → yM → Prop} {M : yM} {x1 : Int}  (h : XW kX9_hasSet d (some .boolean) (wQi Q) 0 [some (.inr (.inr 1)), some (.inl x1)] [] M) : XCi d 61 [.inr (.inr 1), .inl x1] M Q :=
  XC.ofW (Mm := (yX9_hasSet, cX9_hasSet, 2, (some .boolean), 10, kX9_hasSet)) rfl (rcv_ok sh1) rfl rfl h
theorem uX9_hasSet_0 {d : Nat} {Q : Int → yM → Prop} {M : yM} {x1 : Int} (h1 : -2147483648 ≤ x1 ∧ x1 < 2147483648) (kt : x1 < 0 → XW kX9_hasSet d (some .boolean) (wQi Q) 16 [some (.inr (.inr 1)), some (.inl x1)] [] M) (kf : x1 ≥ 0 → XW kX9_hasSet d (some .boolean) (wQi Q) 4 [some (.inr (.inr 1)), some (.inl x1)] [] M) : XW kX9_hasSet d (some .boolean) (wQi Q) 0 [some (.inr (.inr 1)), some (.inl x1)] [] M := by
  refine x_iload_n rfl rfl ?_
  exact x_iflt rfl h1 kt kf
theorem uX9_hasSet_4 {d : Nat} {Q : Int → yM → Prop} {M : yM} {x1 : Int} (k : XCi d 60 [.inr (.inr 1)] M (fun v M' => XW kX9_hasSet (d + 1) (some .boolean) (wQi Q) 9 [some (.inr (.inr 1)), some (.inl x1)] [.inl v, .inl x1] M')) : XW kX9_hasSet (d + 1) (some .boolean) (wQi Q) 4 [some (.inr (.inr 1)), some (.inl x1)] [] M := by
  refine x_iload_n rfl rfl ?_
  refine x_aload_n rfl rfl ?_
  exact x_calli (args := [.inr (.inr 1)]) rfl rfl rfl k
theorem uX9_hasSet_9 {d : Nat} {Q : Int → yM → Prop} {M : yM} {x1 : Int} {s0 : Int} {s1 : Int} (h1 : -2147483648 ≤ s1 ∧ s1 < 2147483648) (h2 : -2147483648 ≤ s0 ∧ s0 < 2147483648) (kt : s1 > s0 → XW kX9_hasSet d (some .boolean) (wQi Q) 16 [some (.inr (.inr 1)), some (.inl x1)] [] M) (kf : s1 ≤ s0 → XW kX9_hasSet d (some .boolean) (wQi Q) 12 [some (.inr (.inr 1)), some (.inl x1)] [] M) : XW kX9_hasSet d (some .boolean) (wQi Q) 9 [some (.inr (.inr 1)), some (.inl x1)] [.inl s0, .inl s1] M := by
  exact x_icmpgt rfl h1 h2 kt kf
theorem uX9_hasSet_12 {d : Nat} {Q : Int → yM → Prop} {M : yM} {x1 : Int} (k : XW kX9_hasSet d (some .boolean) (wQi Q) 17 [some (.inr (.inr 1)), some (.inl x1)] [.inl 1] M) : XW kX9_hasSet d (some .boolean) (wQi Q) 12 [some (.inr (.inr 1)), some (.inl x1)] [] M := by
  refine x_iconst 1 rfl (by decide) ?_
  exact x_goto rfl k
theorem uX9_hasSet_16 {d : Nat} {Q : Int → yM → Prop} {M : yM} {x1 : Int} (k : XW kX9_hasSet d (some .boolean) (wQi Q) 17 [some (.inr (.inr 1)), some (.inl x1)] [.inl 0] M) : XW kX9_hasSet d (some .boolean) (wQi Q) 16 [some (.inr (.inr 1)), some (.inl x1)] [] M := by
  refine x_iconst 0 rfl (by decide) ?_
  exact k
theorem uX9_hasSet_17 {d : Nat} {Q : Int → yM → Prop} {M : yM} {x1 : Int} {s0 : Int} (h1 : s0 = 0 ∨ s0 = 1) (k : Q s0 M) : XW kX9_hasSet d (some .boolean) (wQi Q) 17 [some (.inr (.inr 1)), some (.inl x1)] [.inl s0] M := by
  exact x_zreturn rfl h1 k
theorem eX9_restart {d : Nat} {Q : yM → Prop} {M : yM} {x1 : Int}  (h : XW kX9_restart d none (wQv Q) 0 [some (.inr (.inr 1)), some (.inl x1), none] [] M) : XCv d 62 [.inr (.inr 1), .inl x1] M Q :=
  XC.ofW (Mm := (yX9_restart, cX9_restart, 3, none, 10, kX9_restart)) rfl (rcv_ok sh1) rfl rfl h
theorem uX9_restart_0 {d : Nat} {Q : yM → Prop} {M : yM} {x1 : Int} (k : ∀ M', M' = (put M 1 0 x1) → XW kX9_restart d none (wQv Q) 5 [some (.inr (.inr 1)), some (.inl x1), none] [] M') : XW kX9_restart d none (wQv Q) 0 [some (.inr (.inr 1)), some (.inl x1), none] [] M := by
  refine x_aload_n rfl rfl ?_
  refine x_iload_n rfl rfl ?_
  refine x_putI rfl rfl sh1 rfl ?_
  exact k _ rfl
theorem uX9_restart_5 {d : Nat} {Q : yM → Prop} {M : yM} {x1 : Int} (k : XW kX9_restart d none (wQv Q) 7 [some (.inr (.inr 1)), some (.inl x1), some (.inl 0)] [] M) : XW kX9_restart d none (wQv Q) 5 [some (.inr (.inr 1)), some (.inl x1), none] [] M := by
  refine x_iconst 0 rfl (by decide) ?_
  refine x_istore_n rfl (Nat.le_of_ble_eq_true rfl) rfl ?_
  exact k
theorem uX9_restart_7 {d : Nat} {Q : yM → Prop} {M : yM} {x1 : Int} {x2 : Int} (h1 : -2147483648 ≤ x2 ∧ x2 < 2147483648) (kt : x2 ≥ 8 → XW kX9_restart d none (wQv Q) 26 [some (.inr (.inr 1)), some (.inl x1), some (.inl x2)] [] M) (kf : x2 < 8 → XW kX9_restart d none (wQv Q) 13 [some (.inr (.inr 1)), some (.inl x1), some (.inl x2)] [] M) : XW kX9_restart d none (wQv Q) 7 [some (.inr (.inr 1)), some (.inl x1), some (.inl x2)] [] M := by
  refine x_iload_n rfl rfl ?_
  refine x_bipush 8 rfl (by decide) ?_
  exact x_icmpge rfl h1 (by decide) kt kf
theorem uX9_restart_13 {d : Nat} {Q : yM → Prop} {M : yM} {x1 : Int} {x2 : Int} (h1 : 0 ≤ x2 ∧ x2 < 8) (k : ∀ M', M' = (put M 2 x2 x2) → XW kX9_restart d none (wQv Q) 20 [some (.inr (.inr 1)), some (.inl x1), some (.inl x2)] [] M') : XW kX9_restart d none (wQv Q) 13 [some (.inr (.inr 1)), some (.inl x1), some (.inl x2)] [] M := by
  refine x_aload_n rfl rfl ?_
  refine x_getR rfl sh1 rfl ?_
  refine x_iload_n rfl rfl ?_
  refine x_iload_n rfl rfl ?_
  refine x_iastore rfl ⟨sh2, Nat.le_of_ble_eq_true rfl⟩ h1  ?_
  exact k _ rfl
theorem uX9_restart_20 {d : Nat} {Q : yM → Prop} {M : yM} {x1 : Int} {x2 : Int} (k : XW kX9_restart d none (wQv Q) 7 [some (.inr (.inr 1)), some (.inl x1), some (.inl (x2 + 1))] [] M) : XW kX9_restart d none (wQv Q) 20 [some (.inr (.inr 1)), some (.inl x1), some (.inl x2)] [] M := by
  refine x_iinc 1 rfl (by decide) rfl rfl ?_
  exact x_goto rfl k
theorem uX9_restart_26 {d : Nat} {Q : yM → Prop} {M : yM} {x1 : Int} {x2 : Int} (k : XCv d 64 [.inr (.inr 1)] M (fun M' => XW kX9_restart (d + 1) none (wQv Q) 30 [some (.inr (.inr 1)), some (.inl x1), some (.inl x2)] [] M')) : XW kX9_restart (d + 1) none (wQv Q) 26 [some (.inr (.inr 1)), some (.inl x1), some (.inl x2)] [] M := by
  refine x_aload_n rfl rfl ?_
  exact x_callv (args := [.inr (.inr 1)]) rfl rfl rfl k
theorem uX9_restart_30 {d : Nat} {Q : yM → Prop} {M : yM} {x1 : Int} {x2 : Int} (k : Q M) : XW kX9_restart d none (wQv Q) 30 [some (.inr (.inr 1)), some (.inl x1), some (.inl x2)] [] M := by
  exact x_return rfl k
theorem eX9_makeTurns {d : Nat} {Q : yM → Prop} {M : yM} {x1 : Int} {x2 : Int}  (h : XW kX9_makeTurns d none (wQv Q) 0 [some (.inr (.inr 1)), some (.inl x1), some (.inl x2), none, none] [] M) : XCv d 63 [.inr (.inr 1), .inl x1, .inl x2] M Q :=
  XC.ofW (Mm := (yX9_makeTurns, cX9_makeTurns, 5, none, 10, kX9_makeTurns)) rfl (rcv_ok sh1) rfl rfl h
theorem uX9_makeTurns_0 {d : Nat} {Q : yM → Prop} {M : yM} {x1 : Int} {x2 : Int} (h1 : 0 ≤ x1 ∧ x1 < 8) (h2 : 0 ≤ x2 ∧ x2 < 8) (h3 : 0 ≤ (ld M 2 x1) ∧ (ld M 2 x1) < 8) (k : ∀ M', M' = (put M 2 (ld M 2 x1) (ld M 2 x1)) → XW kX9_makeTurns d none (wQv Q) 22 [some (.inr (.inr 1)), some (.inl x1), some (.inl x2), some (.inl (ld M 2 x1)), some (.inl (ld M 2 x2))] [] M') : XW kX9_makeTurns d none (wQv Q) 0 [some (.inr (.inr 1)), some (.inl x1), some (.inl x2), none, none] [] M := by
  refine x_aload_n rfl rfl ?_
  refine x_getR rfl sh1 rfl ?_
  refine x_iload_n rfl rfl ?_
  refine x_iaload rfl ⟨sh2, Nat.le_of_ble_eq_true rfl⟩ h1 ?_
  refine x_istore_n rfl (Nat.le_of_ble_eq_true rfl) rfl ?_
  refine x_aload_n rfl rfl ?_
  refine x_getR rfl sh1 rfl ?_
  refine x_iload_n rfl rfl ?_
  refine x_iaload rfl ⟨sh2, Nat.le_of_ble_eq_true rfl⟩ h2 ?_
  refine x_istore rfl (Nat.le_of_ble_eq_true rfl) rfl ?_
  refine x_aload_n rfl rfl ?_
  refine x_getR rfl sh1 rfl ?_
  refine x_iload_n rfl rfl ?_
  refine x_iload_n rfl rfl ?_
  refine x_iastore rfl ⟨sh2, Nat.le_of_ble_eq_true rfl⟩ h3  ?_
  exact k _ rfl
theorem uX9_makeTurns_22 {d : Nat} {Q : yM → Prop} {M : yM} {x1 : Int} {x2 : Int} {x3 : Int} {x4 : Int} (h1 : 0 ≤ x4 ∧ x4 < 8) (k : ∀ M', M' = (put M 2 x4 x4) → XW kX9_makeTurns d none (wQv Q) 31 [some (.inr (.inr 1)), some (.inl x1), some (.inl x2), some (.inl x3), some (.inl x4)] [] M') : XW kX9_makeTurns d none (wQv Q) 22 [some (.inr (.inr 1)), some (.inl x1), some (.inl x2), some (.inl x3), some (.inl x4)] [] M := by
  refine x_aload_n rfl rfl ?_
  refine x_getR rfl sh1 rfl ?_
  refine x_iload rfl rfl ?_
  refine x_iload rfl rfl ?_
  refine x_iastore rfl ⟨sh2, Nat.le_of_ble_eq_true rfl⟩ h1  ?_
  exact k _ rfl
theorem uX9_makeTurns_31 {d : Nat} {Q : yM → Prop} {M : yM} {x1 : Int} {x2 : Int} {x3 : Int} {x4 : Int} (h1 : 0 ≤ x1 ∧ x1 < 8) (k : ∀ M', M' = (put M 2 x1 x2) → XW kX9_makeTurns d none (wQv Q) 38 [some (.inr (.inr 1)), some (.inl x1), some (.inl x2), some (.inl x3), some (.inl x4)] [] M') : XW kX9_makeTurns d none (wQv Q) 31 [some (.inr (.inr 1)), some (.inl x1), some (.inl x2), some (.inl x3), some (.inl x4)] [] M := by
  refine x_aload_n rfl rfl ?_
  refine x_getR rfl sh1 rfl ?_
  refine x_iload_n rfl rfl ?_
  refine x_iload_n rfl rfl ?_
  refine x_iastore rfl ⟨sh2, Nat.le_of_ble_eq_true rfl⟩ h1  ?_
  exact k _ rfl
theorem uX9_makeTurns_38 {d : Nat} {Q : yM → Prop} {M : yM} {x1 : Int} {x2 : Int} {x3 : Int} {x4 : Int} (h1 : 0 ≤ x2 ∧ x2 < 8) (k : ∀ M', M' = (put M 2 x2 x1) → XW kX9_makeTurns d none (wQv Q) 45 [some (.inr (.inr 1)), some (.inl x1), some (.inl x2), some (.inl x3), some (.inl x4)] [] M') : XW kX9_makeTurns d none (wQv Q) 38 [some (.inr (.inr 1)), some (.inl x1), some (.inl x2), some (.inl x3), some (.inl x4)] [] M := by
  refine x_aload_n rfl rfl ?_
  refine x_getR rfl sh1 rfl ?_
  refine x_iload_n rfl rfl ?_
  refine x_iload_n rfl rfl ?_
  refine x_iastore rfl ⟨sh2, Nat.le_of_ble_eq_true rfl⟩ h1  ?_
  exact k _ rfl
theorem uX9_makeTurns_45 {d : Nat} {Q : yM → Prop} {M : yM} {x1 : Int} {x2 : Int} {x3 : Int} {x4 : Int} (k : XCv d 64 [.inr (.inr 1)] M (fun M' => XW kX9_makeTurns (d + 1) none (wQv Q) 49 [some (.inr (.inr 1)), some (.inl x1), some (.inl x2), some (.inl x3), some (.inl x4)] [] M')) : XW kX9_makeTurns (d + 1) none (wQv Q) 45 [some (.inr (.inr 1)), some (.inl x1), some (.inl x2), some (.inl x3), some (.inl x4)] [] M := by
  refine x_aload_n rfl rfl ?_
  exact x_callv (args := [.inr (.inr 1)]) rfl rfl rfl k
theorem uX9_makeTurns_49 {d : Nat} {Q : yM → Prop} {M : yM} {x1 : Int} {x2 : Int} {x3 : Int} {x4 : Int} (k : Q M) : XW kX9_makeTurns d none (wQv Q) 49 [some (.inr (.inr 1)), some (.inl x1), some (.inl x2), some (.inl x3), some (.inl x4)] [] M := by
  exact x_return rfl k
theorem eX9_freeTriangles {d : Nat} {Q : yM → Prop} {M : yM}   (h : XW kX9_freeTriangles d none (wQv Q) 0 [some (.inr (.inr 1)), none, none, none] [] M) : XCv d 64 [.inr (.inr 1)] M Q :=
  XC.ofW (Mm := (yX9_freeTriangles, cX9_freeTriangles, 4, none, 10, kX9_freeTriangles)) rfl (rcv_ok sh1) rfl rfl h
theorem uX9_freeTriangles_0 {d : Nat} {Q : yM → Prop} {M : yM}  (k : XCi d 60 [.inr (.inr 1)] M (fun v M' => XW kX9_freeTriangles (d + 1) none (wQv Q) 4 [some (.inr (.inr 1)), none, none, none] [.inl v] M')) : XW kX9_freeTriangles (d + 1) none (wQv Q) 0 [some (.inr (.inr 1)), none, none, none] [] M := by
  refine x_aload_n rfl rfl ?_
  exact x_calli (args := [.inr (.inr 1)]) rfl rfl rfl k
theorem uX9_freeTriangles_4 {d : Nat} {Q : yM → Prop} {M : yM} {s0 : Int} (k : XCv d 181 [.inr (.inr 3), .inl 0] M (fun M' => XW kX9_freeTriangles (d + 1) none (wQv Q) 16 [some (.inr (.inr 1)), some (.inl (yand s0 (-2))), none, none] [] M')) : XW kX9_freeTriangles (d + 1) none (wQv Q) 4 [some (.inr (.inr 1)), none, none, none] [.inl s0] M := by
  refine x_bipush (-2) rfl (by decide) ?_
  refine x_iand rfl ?_
  refine x_istore_n rfl (Nat.le_of_ble_eq_true rfl) rfl ?_
  refine x_aload_n rfl rfl ?_
  refine x_getR rfl sh1 rfl ?_
  refine x_iconst 0 rfl (by decide) ?_
  exact x_callv (args := [.inr (.inr 3), .inl 0]) rfl rfl rfl k
theorem uX9_freeTriangles_16 {d : Nat} {Q : yM → Prop} {M : yM} {x1 : Int} (k : XW kX9_freeTriangles d none (wQv Q) 18 [some (.inr (.inr 1)), some (.inl x1), some (.inl 0), none] [] M) : XW kX9_freeTriangles d none (wQv Q) 16 [some (.inr (.inr 1)), some (.inl x1), none, none] [] M := by
  refine x_iconst 0 rfl (by decide) ?_
  refine x_istore_n rfl (Nat.le_of_ble_eq_true rfl) rfl ?_
  exact k
theorem uX9_freeTriangles_18 {d : Nat} {Q : yM → Prop} {M : yM} {x1 : Int} {x2 : Int} {wx3 : Option yV} (h1 : -2147483648 ≤ x2 ∧ x2 < 2147483648) (kt : x2 ≥ (ld M 1 0) → XW kX9_freeTriangles d none (wQv Q) 101 [some (.inr (.inr 1)), some (.inl x1), some (.inl x2), wx3] [] M) (kf : x2 < (ld M 1 0) → XW kX9_freeTriangles d none (wQv Q) 26 [some (.inr (.inr 1)), some (.inl x1), some (.inl x2), wx3] [] M) : XW kX9_freeTriangles d none (wQv Q) 18 [some (.inr (.inr 1)), some (.inl x1), some (.inl x2), wx3] [] M := by
  refine x_iload_n rfl rfl ?_
  refine x_aload_n rfl rfl ?_
  refine x_getI rfl sh1 rfl ?_
  exact x_icmpge rfl h1 (rng_ld _ _ _) kt kf
theorem uX9_freeTriangles_26 {d : Nat} {Q : yM → Prop} {M : yM} {x1 : Int} {x2 : Int} {wx3 : Option yV} (h1 : 0 ≤ x2 ∧ x2 < 64) (k : ∀ M', M' = (put M 3 x2 (yshl 1 x2)) → XW kX9_freeTriangles d none (wQv Q) 35 [some (.inr (.inr 1)), some (.inl x1), some (.inl x2), wx3] [] M') : XW kX9_freeTriangles d none (wQv Q) 26 [some (.inr (.inr 1)), some (.inl x1), some (.inl x2), wx3] [] M := by
  refine x_aload_n rfl rfl ?_
  refine x_getR rfl sh1 rfl ?_
  refine x_iload_n rfl rfl ?_
  refine x_iconst 1 rfl (by decide) ?_
  refine x_iload_n rfl rfl ?_
  refine x_ishl rfl ?_
  refine x_iastore rfl ⟨sh3, Nat.le_of_ble_eq_true rfl⟩ h1  ?_
  exact k _ rfl
theorem uX9_freeTriangles_35 {d : Nat} {Q : yM → Prop} {M : yM} {x1 : Int} {x2 : Int} {wx3 : Option yV} (h1 : 0 ≤ (8 * x2) ∧ (8 * x2) < 64) (k : ∀ M', M' = (put M 3 (8 * x2) (yshl 1 x2)) → XW kX9_freeTriangles d none (wQv Q) 47 [some (.inr (.inr 1)), some (.inl x1), some (.inl x2), wx3] [] M') : XW kX9_freeTriangles d none (wQv Q) 35 [some (.inr (.inr 1)), some (.inl x1), some (.inl x2), wx3] [] M := by
  refine x_aload_n rfl rfl ?_
  refine x_getR rfl sh1 rfl ?_
  refine x_bipush 8 rfl (by decide) ?_
  refine x_iload_n rfl rfl ?_
  refine x_imul rfl ?_
  refine x_iconst 1 rfl (by decide) ?_
  refine x_iload_n rfl rfl ?_
  refine x_ishl rfl ?_
  refine x_iastore rfl ⟨sh3, Nat.le_of_ble_eq_true rfl⟩ h1  ?_
  exact k _ rfl
theorem uX9_freeTriangles_47 {d : Nat} {Q : yM → Prop} {M : yM} {x1 : Int} {x2 : Int} {wx3 : Option yV} (k : XW kX9_freeTriangles d none (wQv Q) 49 [some (.inr (.inr 1)), some (.inl x1), some (.inl x2), some (.inl 1)] [] M) : XW kX9_freeTriangles d none (wQv Q) 47 [some (.inr (.inr 1)), some (.inl x1), some (.inl x2), wx3] [] M := by
  refine x_iconst 1 rfl (by decide) ?_
  refine x_istore_n rfl (Nat.le_of_ble_eq_true rfl) rfl ?_
  exact k
theorem uX9_freeTriangles_49 {d : Nat} {Q : yM → Prop} {M : yM} {x1 : Int} {x2 : Int} {x3 : Int} (h1 : -2147483648 ≤ x3 ∧ x3 < 2147483648) (kt : x3 ≥ (ld M 1 0) → XW kX9_freeTriangles d none (wQv Q) 95 [some (.inr (.inr 1)), some (.inl x1), some (.inl x2), some (.inl x3)] [] M) (kf : x3 < (ld M 1 0) → XW kX9_freeTriangles d none (wQv Q) 57 [some (.inr (.inr 1)), some (.inl x1), some (.inl x2), some (.inl x3)] [] M) : XW kX9_freeTriangles d none (wQv Q) 49 [some (.inr (.inr 1)), some (.inl x1), some (.inl x2), some (.inl x3)] [] M := by
  refine x_iload_n rfl rfl ?_
  refine x_aload_n rfl rfl ?_
  refine x_getI rfl sh1 rfl ?_
  exact x_icmpge rfl h1 (rng_ld _ _ _) kt kf
theorem uX9_freeTriangles_57 {d : Nat} {Q : yM → Prop} {M : yM} {x1 : Int} {x2 : Int} {x3 : Int} (h1 : -2147483648 ≤ x2 ∧ x2 < 2147483648) (kt : x2 ≤ 0 → XW kX9_freeTriangles d none (wQv Q) 95 [some (.inr (.inr 1)), some (.inl x1), some (.inl x2), some (.inl x3)] [] M) (kf : x2 > 0 → XW kX9_freeTriangles d none (wQv Q) 61 [some (.inr (.inr 1)), some (.inl x1), some (.inl x2), some (.inl x3)] [] M) : XW kX9_freeTriangles d none (wQv Q) 57 [some (.inr (.inr 1)), some (.inl x1), some (.inl x2), some (.inl x3)] [] M := by
  refine x_iload_n rfl rfl ?_
  exact x_ifle rfl h1 kt kf
theorem uX9_freeTriangles_61 {d : Nat} {Q : yM → Prop} {M : yM} {x1 : Int} {x2 : Int} {x3 : Int} (h1 : 0 ≤ x2 ∧ x2 < 8) (h2 : -2147483648 ≤ x3 ∧ x3 < 2147483648) (kt : (ld M 2 x2) ≠ x3 → XW kX9_freeTriangles d none (wQv Q) 87 [some (.inr (.inr 1)), some (.inl x1), some (.inl x2), some (.inl x3)] [.inl ((8 * x2) + x3), .inr (.inr 3)] M) (kf : (ld M 2 x2) = x3 → XW kX9_freeTriangles d none (wQv Q) 81 [some (.inr (.inr 1)), some (.inl x1), some (.inl x2), some (.inl x3)] [.inl ((8 * x2) + x3), .inr (.inr 3)] M) : XW kX9_freeTriangles d none (wQv Q) 61 [some (.inr (.inr 1)), some (.inl x1), some (.inl x2), some (.inl x3)] [] M := by
  refine x_aload_n rfl rfl ?_
  refine x_getR rfl sh1 rfl ?_
  refine x_bipush 8 rfl (by decide) ?_
  refine x_iload_n rfl rfl ?_
  refine x_imul rfl ?_
  refine x_iload_n rfl rfl ?_
  refine x_iadd rfl ?_
  refine x_aload_n rfl rfl ?_
  refine x_getR rfl sh1 rfl ?_
  refine x_iload_n rfl rfl ?_
  refine x_iaload rfl ⟨sh2, Nat.le_of_ble_eq_true rfl⟩ h1 ?_
  refine x_iload_n rfl rfl ?_
  exact x_icmpne rfl (rng_ld _ _ _) h2 kt kf
theorem uX9_freeTriangles_81 {d : Nat} {Q : yM → Prop} {M : yM} {x1 : Int} {x2 : Int} {x3 : Int} {s0 : Int} (k : XW kX9_freeTriangles d none (wQv Q) 88 [some (.inr (.inr 1)), some (.inl x1), some (.inl x2), some (.inl x3)] [.inl (yor x1 1), .inl s0, .inr (.inr 3)] M) : XW kX9_freeTriangles d none (wQv Q) 81 [some (.inr (.inr 1)), some (.inl x1), some (.inl x2), some (.inl x3)] [.inl s0, .inr (.inr 3)] M := by
  refine x_iload_n rfl rfl ?_
  refine x_iconst 1 rfl (by decide) ?_
  refine x_ior rfl ?_
  exact x_goto rfl k
theorem uX9_freeTriangles_87 {d : Nat} {Q : yM → Prop} {M : yM} {x1 : Int} {x2 : Int} {x3 : Int} {s0 : Int} (k : XW kX9_freeTriangles d none (wQv Q) 88 [some (.inr (.inr 1)), some (.inl x1), some (.inl x2), some (.inl x3)] [.inl x1, .inl s0, .inr (.inr 3)] M) : XW kX9_freeTriangles d none (wQv Q) 87 [some (.inr (.inr 1)), some (.inl x1), some (.inl x2), some (.inl x3)] [.inl s0, .inr (.inr 3)] M := by
  refine x_iload_n rfl rfl ?_
  exact k
theorem uX9_freeTriangles_88 {d : Nat} {Q : yM → Prop} {M : yM} {x1 : Int} {x2 : Int} {x3 : Int} {s0 : Int} {s1 : Int} (h1 : 0 ≤ s1 ∧ s1 < 64) (k : ∀ M', M' = (put M 3 s1 s0) → XW kX9_freeTriangles d none (wQv Q) 89 [some (.inr (.inr 1)), some (.inl x1), some (.inl x2), some (.inl x3)] [] M') : XW kX9_freeTriangles d none (wQv Q) 88 [some (.inr (.inr 1)), some (.inl x1), some (.inl x2), some (.inl x3)] [.inl s0, .inl s1, .inr (.inr 3)] M := by
  refine x_iastore rfl ⟨sh3, Nat.le_of_ble_eq_true rfl⟩ h1  ?_
  exact k _ rfl
theorem uX9_freeTriangles_89 {d : Nat} {Q : yM → Prop} {M : yM} {x1 : Int} {x2 : Int} {x3 : Int} (k : XW kX9_freeTriangles d none (wQv Q) 49 [some (.inr (.inr 1)), some (.inl x1), some (.inl x2), some (.inl (x3 + 1))] [] M) : XW kX9_freeTriangles d none (wQv Q) 89 [some (.inr (.inr 1)), some (.inl x1), some (.inl x2), some (.inl x3)] [] M := by
  refine x_iinc 1 rfl (by decide) rfl rfl ?_
  exact x_goto rfl k
theorem uX9_freeTriangles_95 {d : Nat} {Q : yM → Prop} {M : yM} {x1 : Int} {x2 : Int} {x3 : Int} (k : XW kX9_freeTriangles d none (wQv Q) 18 [some (.inr (.inr 1)), some (.inl x1), some (.inl (x2 + 1)), some (.inl x3)] [] M) : XW kX9_freeTriangles d none (wQv Q) 95 [some (.inr (.inr 1)), some (.inl x1), some (.inl x2), some (.inl x3)] [] M := by
  refine x_iinc 1 rfl (by decide) rfl rfl ?_
  exact x_goto rfl k
theorem uX9_freeTriangles_101 {d : Nat} {Q : yM → Prop} {M : yM} {x1 : Int} {x2 : Int} {wx3 : Option yV} (k : XCv d 68 [.inr (.inr 1)] M (fun M' => XW kX9_freeTriangles (d + 1) none (wQv Q) 105 [some (.inr (.inr 1)), some (.inl x1), some (.inl x2), wx3] [] M')) : XW kX9_freeTriangles (d + 1) none (wQv Q) 101 [some (.inr (.inr 1)), some (.inl x1), some (.inl x2), wx3] [] M := by
  refine x_aload_n rfl rfl ?_
  exact x_callv (args := [.inr (.inr 1)]) rfl rfl rfl k
theorem uX9_freeTriangles_105 {d : Nat} {Q : yM → Prop} {M : yM} {x1 : Int} {x2 : Int} {wx3 : Option yV} (k : Q M) : XW kX9_freeTriangles d none (wQv Q) 105 [some (.inr (.inr 1)), some (.inl x1), some (.inl x2), wx3] [] M := by
  exact x_return rfl k
theorem eX9_mayBe {d : Nat} {Q : Int → yM → Prop} {M : yM} {x1 : Int} {x2 : Int} {x3 : Int}  (h : XW kX9_mayBe d (some .boolean) (wQi Q) 0 [some (.inr (.inr 1)), some (.inl x1), some (.inl x2), some (.inl x3)] [] M) : XCi d 65 [.inr (.inr 1), .inl x1, .inl x2, .inl x3] M Q :=
  XC.ofW (Mm := (yX9_mayBe, cX9_mayBe, 4, (some .boolean), 10, kX9_mayBe)) rfl (rcv_ok sh1) rfl rfl h
theorem uX9_mayBe_0 {d : Nat} {Q : Int → yM → Prop} {M : yM} {x1 : Int} {x2 : Int} {x3 : Int} (h1 : 0 ≤ ((8 * x1) + x2) ∧ ((8 * x1) + x2) < 64) (kt : (yand (yshr (ld M 3 ((8 * x1) + x2)) x3) 1) ≠ 1 → XW kX9_mayBe d (some .boolean) (wQi Q) 23 [some (.inr (.inr 1)), some (.inl x1), some (.inl x2), some (.inl x3)] [] M) (kf : (yand (yshr (ld M 3 ((8 * x1) + x2)) x3) 1) = 1 → XW kX9_mayBe d (some .boolean) (wQi Q) 19 [some (.inr (.inr 1)), some (.inl x1), some (.inl x2), some (.inl x3)] [] M) : XW kX9_mayBe d (some .boolean) (wQi Q) 0 [some (.inr (.inr 1)), some (.inl x1), some (.inl x2), some (.inl x3)] [] M := by
  refine x_aload_n rfl rfl ?_
  refine x_getR rfl sh1 rfl ?_
  refine x_bipush 8 rfl (by decide) ?_
  refine x_iload_n rfl rfl ?_
  refine x_imul rfl ?_
  refine x_iload_n rfl rfl ?_
  refine x_iadd rfl ?_
  refine x_iaload rfl ⟨sh3, Nat.le_of_ble_eq_true rfl⟩ h1 ?_
  refine x_iload_n rfl rfl ?_
  refine x_ishr rfl ?_
  refine x_iconst 1 rfl (by decide) ?_
  refine x_iand rfl ?_
  refine x_iconst 1 rfl (by decide) ?_
  exact x_icmpne rfl (rng_yand _ _) (by decide) kt kf
theorem uX9_mayBe_19 {d : Nat} {Q : Int → yM → Prop} {M : yM} {x1 : Int} {x2 : Int} {x3 : Int} (k : XW kX9_mayBe d (some .boolean) (wQi Q) 24 [some (.inr (.inr 1)), some (.inl x1), some (.inl x2), some (.inl x3)] [.inl 1] M) : XW kX9_mayBe d (some .boolean) (wQi Q) 19 [some (.inr (.inr 1)), some (.inl x1), some (.inl x2), some (.inl x3)] [] M := by
  refine x_iconst 1 rfl (by decide) ?_
  exact x_goto rfl k
theorem uX9_mayBe_23 {d : Nat} {Q : Int → yM → Prop} {M : yM} {x1 : Int} {x2 : Int} {x3 : Int} (k : XW kX9_mayBe d (some .boolean) (wQi Q) 24 [some (.inr (.inr 1)), some (.inl x1), some (.inl x2), some (.inl x3)] [.inl 0] M) : XW kX9_mayBe d (some .boolean) (wQi Q) 23 [some (.inr (.inr 1)), some (.inl x1), some (.inl x2), some (.inl x3)] [] M := by
  refine x_iconst 0 rfl (by decide) ?_
  exact k
theorem uX9_mayBe_24 {d : Nat} {Q : Int → yM → Prop} {M : yM} {x1 : Int} {x2 : Int} {x3 : Int} {s0 : Int} (h1 : s0 = 0 ∨ s0 = 1) (k : Q s0 M) : XW kX9_mayBe d (some .boolean) (wQi Q) 24 [some (.inr (.inr 1)), some (.inl x1), some (.inl x2), some (.inl x3)] [.inl s0] M := by
  exact x_zreturn rfl h1 k
theorem eX9_setTriangle {d : Nat} {Q : yM → Prop} {M : yM} {x1 : Int} {x2 : Int} {x3 : Int} {x4 : Int}  (h : XW kX9_setTriangle d none (wQv Q) 0 [some (.inr (.inr 1)), some (.inl x1), some (.inl x2), some (.inl x3), some (.inl x4), none, none, none] [] M) : XCv d 66 [.inr (.inr 1), .inl x1, .inl x2, .inl x3, .inl x4] M Q :=
  XC.ofW (Mm := (yX9_setTriangle, cX9_setTriangle, 8, none, 10, kX9_setTriangle)) rfl (rcv_ok sh1) rfl rfl h
theorem uX9_setTriangle_0 {d : Nat} {Q : yM → Prop} {M : yM} {x1 : Int} {x2 : Int} {x3 : Int} {x4 : Int} (h1 : 0 ≤ x1 ∧ x1 < 8) (h2 : 0 ≤ x2 ∧ x2 < 8) (h3 : 0 ≤ x3 ∧ x3 < 8) (k : XCv d 67 [.inr (.inr 1), .inl x1, .inl x2, .inl x3, .inl x4] M (fun M' => XW kX9_setTriangle (d + 1) none (wQv Q) 33 [some (.inr (.inr 1)), some (.inl x1), some (.inl x2), some (.inl x3), some (.inl x4), some (.inl (ld M 2 x1)), some (.inl (ld M 2 x2)), some (.inl (ld M 2 x3))] [] M')) : XW kX9_setTriangle (d + 1) none (wQv Q) 0 [some (.inr (.inr 1)), some (.inl x1), some (.inl x2), some (.inl x3), some (.inl x4), none, none, none] [] M := by
  refine x_aload_n rfl rfl ?_
  refine x_getR rfl sh1 rfl ?_
  refine x_iload_n rfl rfl ?_
  refine x_iaload rfl ⟨sh2, Nat.le_of_ble_eq_true rfl⟩ h1 ?_
  refine x_istore rfl (Nat.le_of_ble_eq_true rfl) rfl ?_
  refine x_aload_n rfl rfl ?_
  refine x_getR rfl sh1 rfl ?_
  refine x_iload_n rfl rfl ?_
  refine x_iaload rfl ⟨sh2, Nat.le_of_ble_eq_true rfl⟩ h2 ?_
  refine x_istore rfl (Nat.le_of_ble_eq_true rfl) rfl ?_
  refine x_aload_n rfl rfl ?_
  refine x_getR rfl sh1 rfl ?_
  refine x_iload_n rfl rfl ?_
  refine x_iaload rfl ⟨sh2, Nat.le_of_ble_eq_true rfl⟩ h3 ?_
  refine x_istore rfl (Nat.le_of_ble_eq_true rfl) rfl ?_
  refine x_aload_n rfl rfl ?_
  refine x_iload_n rfl rfl ?_
  refine x_iload_n rfl rfl ?_
  refine x_iload_n rfl rfl ?_
  refine x_iload rfl rfl ?_
  exact x_callv (args := [.inr (.inr 1), .inl x1, .inl x2, .inl x3, .inl x4]) rfl rfl rfl k
theorem uX9_setTriangle_33 {d : Nat} {Q : yM → Prop} {M : yM} {x1 : Int} {x2 : Int} {x3 : Int} {x4 : Int} {x5 : Int} {x6 : Int} {x7 : Int} (k : XCv d 67 [.inr (.inr 1), .inl x3, .inl x6, .inl x1, .inl x4] M (fun M' => XW kX9_setTriangle (d + 1) none (wQv Q) 43 [some (.inr (.inr 1)), some (.inl x1), some (.inl x2), some (.inl x3), some (.inl x4), some (.inl x5), some (.inl x6), some (.inl x7)] [] M')) : XW kX9_setTriangle (d + 1) none (wQv Q) 33 [some (.inr (.inr 1)), some (.inl x1), some (.inl x2), some (.inl x3), some (.inl x4), some (.inl x5), some (.inl x6), some (.inl x7)] [] M := by
  refine x_aload_n rfl rfl ?_
  refine x_iload_n rfl rfl ?_
  refine x_iload rfl rfl ?_
  refine x_iload_n rfl rfl ?_
  refine x_iload rfl rfl ?_
  exact x_callv (args := [.inr (.inr 1), .inl x3, .inl x6, .inl x1, .inl x4]) rfl rfl rfl k
theorem uX9_setTriangle_43 {d : Nat} {Q : yM → Prop} {M : yM} {x1 : Int} {x2 : Int} {x3 : Int} {x4 : Int} {x5 : Int} {x6 : Int} {x7 : Int} (k : XCv d 67 [.inr (.inr 1), .inl x5, .inl x3, .inl x2, .inl x4] M (fun M' => XW kX9_setTriangle (d + 1) none (wQv Q) 53 [some (.inr (.inr 1)), some (.inl x1), some (.inl x2), some (.inl x3), some (.inl x4), some (.inl x5), some (.inl x6), some (.inl x7)] [] M')) : XW kX9_setTriangle (d + 1) none (wQv Q) 43 [some (.inr (.inr 1)), some (.inl x1), some (.inl x2), some (.inl x3), some (.inl x4), some (.inl x5), some (.inl x6), some (.inl x7)] [] M := by
  refine x_aload_n rfl rfl ?_
  refine x_iload rfl rfl ?_
  refine x_iload_n rfl rfl ?_
  refine x_iload_n rfl rfl ?_
  refine x_iload rfl rfl ?_
  exact x_callv (args := [.inr (.inr 1), .inl x5, .inl x3, .inl x2, .inl x4]) rfl rfl rfl k
theorem uX9_setTriangle_53 {d : Nat} {Q : yM → Prop} {M : yM} {x1 : Int} {x2 : Int} {x3 : Int} {x4 : Int} {x5 : Int} {x6 : Int} {x7 : Int} (k : XCv d 67 [.inr (.inr 1), .inl x2, .inl x7, .inl x5, .inl x4] M (fun M' => XW kX9_setTriangle (d + 1) none (wQv Q) 64 [some (.inr (.inr 1)), some (.inl x1), some (.inl x2), some (.inl x3), some (.inl x4), some (.inl x5), some (.inl x6), some (.inl x7)] [] M')) : XW kX9_setTriangle (d + 1) none (wQv Q) 53 [some (.inr (.inr 1)), some (.inl x1), some (.inl x2), some (.inl x3), some (.inl x4), some (.inl x5), some (.inl x6), some (.inl x7)] [] M := by
  refine x_aload_n rfl rfl ?_
  refine x_iload_n rfl rfl ?_
  refine x_iload rfl rfl ?_
  refine x_iload rfl rfl ?_
  refine x_iload rfl rfl ?_
  exact x_callv (args := [.inr (.inr 1), .inl x2, .inl x7, .inl x5, .inl x4]) rfl rfl rfl k
theorem uX9_setTriangle_64 {d : Nat} {Q : yM → Prop} {M : yM} {x1 : Int} {x2 : Int} {x3 : Int} {x4 : Int} {x5 : Int} {x6 : Int} {x7 : Int} (k : XCv d 67 [.inr (.inr 1), .inl x7, .inl x1, .inl x6, .inl x4] M (fun M' => XW kX9_setTriangle (d + 1) none (wQv Q) 75 [some (.inr (.inr 1)), some (.inl x1), some (.inl x2), some (.inl x3), some (.inl x4), some (.inl x5), some (.inl x6), some (.inl x7)] [] M')) : XW kX9_setTriangle (d + 1) none (wQv Q) 64 [some (.inr (.inr 1)), some (.inl x1), some (.inl x2), some (.inl x3), some (.inl x4), some (.inl x5), some (.inl x6), some (.inl x7)] [] M := by
  refine x_aload_n rfl rfl ?_
  refine x_iload rfl rfl ?_
  refine x_iload_n rfl rfl ?_
  refine x_iload rfl rfl ?_
  refine x_iload rfl rfl ?_
  exact x_callv (args := [.inr (.inr 1), .inl x7, .inl x1, .inl x6, .inl x4]) rfl rfl rfl k
theorem uX9_setTriangle_75 {d : Nat} {Q : yM → Prop} {M : yM} {x1 : Int} {x2 : Int} {x3 : Int} {x4 : Int} {x5 : Int} {x6 : Int} {x7 : Int} (k : XCv d 67 [.inr (.inr 1), .inl x6, .inl x5, .inl x7, .inl x4] M (fun M' => XW kX9_setTriangle (d + 1) none (wQv Q) 87 [some (.inr (.inr 1)), some (.inl x1), some (.inl x2), some (.inl x3), some (.inl x4), some (.inl x5), some (.inl x6), some (.inl x7)] [] M')) : XW kX9_setTriangle (d + 1) none (wQv Q) 75 [some (.inr (.inr 1)), some (.inl x1), some (.inl x2), some (.inl x3), some (.inl x4), some (.inl x5), some (.inl x6), some (.inl x7)] [] M := by
  refine x_aload_n rfl rfl ?_
  refine x_iload rfl rfl ?_
  refine x_iload rfl rfl ?_
  refine x_iload rfl rfl ?_
  refine x_iload rfl rfl ?_
  exact x_callv (args := [.inr (.inr 1), .inl x6, .inl x5, .inl x7, .inl x4]) rfl rfl rfl k
theorem uX9_setTriangle_87 {d : Nat} {Q : yM → Prop} {M : yM} {x1 : Int} {x2 : Int} {x3 : Int} {x4 : Int} {x5 : Int} {x6 : Int} {x7 : Int} (k : XCv d 68 [.inr (.inr 1)] M (fun M' => XW kX9_setTriangle (d + 1) none (wQv Q) 91 [some (.inr (.inr 1)), some (.inl x1), some (.inl x2), some (.inl x3), some (.inl x4), some (.inl x5), some (.inl x6), some (.inl x7)] [] M')) : XW kX9_setTriangle (d + 1) none (wQv Q) 87 [some (.inr (.inr 1)), some (.inl x1), some (.inl x2), some (.inl x3), some (.inl x4), some (.inl x5), some (.inl x6), some (.inl x7)] [] M := by
  refine x_aload_n rfl rfl ?_
  exact x_callv (args := [.inr (.inr 1)]) rfl rfl rfl k
theorem uX9_setTriangle_91 {d : Nat} {Q : yM → Prop} {M : yM} {x1 : Int} {x2 : Int} {x3 : Int} {x4 : Int} {x5 : Int} {x6 : Int} {x7 : Int} (k : Q M) : XW kX9_setTriangle d none (wQv Q) 91 [some (.inr (.inr 1)), some (.inl x1), some (.inl x2), some (.inl x3), some (.inl x4), some (.inl x5), some (.inl x6), some (.inl x7)] [] M := by
  exact x_return rfl k
theorem eX9_setOne {d : Nat} {Q : yM → Prop} {M : yM} {x1 : Int} {x2 : Int} {x3 : Int} {x4 : Int}  (h : XW kX9_setOne d none (wQv Q) 0 [some (.inr (.inr 1)), some (.inl x1), some (.inl x2), some (.inl x3), some (.inl x4)] [] M) : XCv d 67 [.inr (.inr 1), .inl x1, .inl x2, .inl x3, .inl x4] M Q :=
  XC.ofW (Mm := (yX9_setOne, cX9_setOne, 5, none, 10, kX9_setOne)) rfl (rcv_ok sh1) rfl rfl h
theorem uX9_setOne_0 {d : Nat} {Q : yM → Prop} {M : yM} {x1 : Int} {x2 : Int} {x3 : Int} {x4 : Int} (h1 : -2147483648 ≤ x4 ∧ x4 < 2147483648) (kt : x4 = 0 → XW kX9_setOne d none (wQv Q) 25 [some (.inr (.inr 1)), some (.inl x1), some (.inl x2), some (.inl x3), some (.inl x4)] [] M) (kf : x4 ≠ 0 → XW kX9_setOne d none (wQv Q) 5 [some (.inr (.inr 1)), some (.inl x1), some (.inl x2), some (.inl x3), some (.inl x4)] [] M) : XW kX9_setOne d none (wQv Q) 0 [some (.inr (.inr 1)), some (.inl x1), some (.inl x2), some (.inl x3), some (.inl x4)] [] M := by
  refine x_iload rfl rfl ?_
  exact x_ifeq rfl h1 kt kf
theorem uX9_setOne_5 {d : Nat} {Q : yM → Prop} {M : yM} {x1 : Int} {x2 : Int} {x3 : Int} {x4 : Int} (h1 : 0 ≤ ((8 * x1) + x2) ∧ ((8 * x1) + x2) < 64) (h2 : 0 ≤ ((8 * x1) + x2) ∧ ((8 * x1) + x2) < 64) (k : ∀ M', M' = (put M 3 ((8 * x1) + x2) (yor (ld M 3 ((8 * x1) + x2)) (yshl 1 x3))) → XW kX9_setOne d none (wQv Q) 22 [some (.inr (.inr 1)), some (.inl x1), some (.inl x2), some (.inl x3), some (.inl x4)] [] M') : XW kX9_setOne d none (wQv Q) 5 [some (.inr (.inr 1)), some (.inl x1), some (.inl x2), some (.inl x3), some (.inl x4)] [] M := by
  refine x_aload_n rfl rfl ?_
  refine x_getR rfl sh1 rfl ?_
  refine x_bipush 8 rfl (by decide) ?_
  refine x_iload_n rfl rfl ?_
  refine x_imul rfl ?_
  refine x_iload_n rfl rfl ?_
  refine x_iadd rfl ?_
  refine x_dup2 rfl ?_
  refine x_iaload rfl ⟨sh3, Nat.le_of_ble_eq_true rfl⟩ h1 ?_
  refine x_iconst 1 rfl (by decide) ?_
  refine x_iload_n rfl rfl ?_
  refine x_ishl rfl ?_
  refine x_ior rfl ?_
  refine x_iastore rfl ⟨sh3, Nat.le_of_ble_eq_true rfl⟩ h2  ?_
  exact k _ rfl
theorem uX9_setOne_22 {d : Nat} {Q : yM → Prop} {M : yM} {x1 : Int} {x2 : Int} {x3 : Int} {x4 : Int} (k : XW kX9_setOne d none (wQv Q) 44 [some (.inr (.inr 1)), some (.inl x1), some (.inl x2), some (.inl x3), some (.inl x4)] [] M) : XW kX9_setOne d none (wQv Q) 22 [some (.inr (.inr 1)), some (.inl x1), some (.inl x2), some (.inl x3), some (.inl x4)] [] M := by
  exact x_goto rfl k
theorem uX9_setOne_25 {d : Nat} {Q : yM → Prop} {M : yM} {x1 : Int} {x2 : Int} {x3 : Int} {x4 : Int} (h1 : 0 ≤ ((8 * x1) + x2) ∧ ((8 * x1) + x2) < 64) (h2 : 0 ≤ ((8 * x1) + x2) ∧ ((8 * x1) + x2) < 64) (k : ∀ M', M' = (put M 3 ((8 * x1) + x2) (yand (ld M 3 ((8 * x1) + x2)) (yxor (yshl 1 x3) (-1)))) → XW kX9_setOne d none (wQv Q) 44 [some (.inr (.inr 1)), some (.inl x1), some (.inl x2), some (.inl x3), some (.inl x4)] [] M') : XW kX9_setOne d none (wQv Q) 25 [some (.inr (.inr 1)), some (.inl x1), some (.inl x2), some (.inl x3), some (.inl x4)] [] M := by
  refine x_aload_n rfl rfl ?_
  refine x_getR rfl sh1 rfl ?_
  refine x_bipush 8 rfl (by decide) ?_
  refine x_iload_n rfl rfl ?_
  refine x_imul rfl ?_
  refine x_iload_n rfl rfl ?_
  refine x_iadd rfl ?_
  refine x_dup2 rfl ?_
  refine x_iaload rfl ⟨sh3, Nat.le_of_ble_eq_true rfl⟩ h1 ?_
  refine x_iconst 1 rfl (by decide) ?_
  refine x_iload_n rfl rfl ?_
  refine x_ishl rfl ?_
  refine x_iconst (-1) rfl (by decide) ?_
  refine x_ixor rfl ?_
  refine x_iand rfl ?_
  refine x_iastore rfl ⟨sh3, Nat.le_of_ble_eq_true rfl⟩ h2  ?_
  exact k _ rfl
theorem uX9_setOne_44 {d : Nat} {Q : yM → Prop} {M : yM} {x1 : Int} {x2 : Int} {x3 : Int} {x4 : Int} (k : Q M) : XW kX9_setOne d none (wQv Q) 44 [some (.inr (.inr 1)), some (.inl x1), some (.inl x2), some (.inl x3), some (.inl x4)] [] M := by
  exact x_return rfl k
theorem eX9_prepare {d : Nat} {Q : yM → Prop} {M : yM} {x0 : Nat} (hT : tabSh x0) (h : XW kX9_prepare d none (wQv Q) 0 [some (.inr (.inr x0)), none, none, none] [] M) : XCv d 68 [.inr (.inr x0)] M Q :=
  XC.ofW (Mm := (yX9_prepare, cX9_prepare, 4, none, 10, kX9_prepare)) rfl (rcv_ok hT.1) rfl rfl h
theorem uX9_prepare_0 {d : Nat} {Q : yM → Prop} {M : yM} {x0 : Nat} (k : XW kX9_prepare d none (wQv Q) 2 [some (.inr (.inr x0)), some (.inl 1), none, none] [] M) : XW kX9_prepare d none (wQv Q) 0 [some (.inr (.inr x0)), none, none, none] [] M := by
  refine x_iconst 1 rfl (by decide) ?_
  refine x_istore_n rfl (Nat.le_of_ble_eq_true rfl) rfl ?_
  exact k
theorem uX9_prepare_2 {d : Nat} {Q : yM → Prop} {M : yM} {x0 : Nat} {x1 : Int} (k : XCi d 60 [.inr (.inr x0)] M (fun v M' => XW kX9_prepare (d + 1) none (wQv Q) 7 [some (.inr (.inr x0)), some (.inl x1), none, none] [.inl v, .inl x1] M')) : XW kX9_prepare (d + 1) none (wQv Q) 2 [some (.inr (.inr x0)), some (.inl x1), none, none] [] M := by
  refine x_iload_n rfl rfl ?_
  refine x_aload_n rfl rfl ?_
  exact x_calli (args := [.inr (.inr x0)]) rfl rfl rfl k
theorem uX9_prepare_7 {d : Nat} {Q : yM → Prop} {M : yM} {x0 : Nat} {x1 : Int} {s0 : Int} {s1 : Int} (h1 : -2147483648 ≤ s1 ∧ s1 < 2147483648) (h2 : -2147483648 ≤ s0 ∧ s0 < 2147483648) (kt : s1 > s0 → XW kX9_prepare d none (wQv Q) 44 [some (.inr (.inr x0)), some (.inl x1), none, none] [] M) (kf : s1 ≤ s0 → XW kX9_prepare d none (wQv Q) 10 [some (.inr (.inr x0)), some (.inl x1), none, none] [] M) : XW kX9_prepare d none (wQv Q) 7 [some (.inr (.inr x0)), some (.inl x1), none, none] [.inl s0, .inl s1] M := by
  exact x_icmpgt rfl h1 h2 kt kf
theorem uX9_prepare_10 {d : Nat} {Q : yM → Prop} {M : yM} {x0 : Nat} {x1 : Int} (h1 : tabSh x0) (h2 : 0 ≤ (yand x1 (x1 - 1)) ∧ (yand x1 (x1 - 1)) < 256) (k : XCi d 116 [.inl x1] M (fun v M' => XW kX9_prepare (d + 1) none (wQv Q) 34 [some (.inr (.inr x0)), some (.inl x1), none, none] [.inl v, .inr (.inr (x0 + 1)), .inl 1, .inl (ld M (x0 + 3) (yand x1 (x1 - 1))), .inl x1, .inr (.inr (x0 + 3))] M')) : XW kX9_prepare (d + 1) none (wQv Q) 10 [some (.inr (.inr x0)), some (.inl x1), none, none] [] M := by
  refine x_aload_n rfl rfl ?_
  refine x_getR rfl h1.1 rfl ?_
  refine x_iload_n rfl rfl ?_
  refine x_aload_n rfl rfl ?_
  refine x_getR rfl h1.1 rfl ?_
  refine x_iload_n rfl rfl ?_
  refine x_iload_n rfl rfl ?_
  refine x_iconst 1 rfl (by decide) ?_
  refine x_isub rfl ?_
  refine x_iand rfl ?_
  refine x_iaload rfl h1.2.2.2.1 h2 ?_
  refine x_iconst 1 rfl (by decide) ?_
  refine x_aload_n rfl rfl ?_
  refine x_getR rfl h1.1 rfl ?_
  refine x_iload_n rfl rfl ?_
  exact x_calli (args := [.inl x1]) rfl rfl rfl k
theorem uX9_prepare_34 {d : Nat} {Q : yM → Prop} {M : yM} {x0 : Nat} {x1 : Int} {s0 : Int} {s1 : Nat} {s2 : Int} {s3 : Int} {s4 : Int} {s5 : Nat} (h1 : arrSh s1 8) (h2 : 0 ≤ s0 ∧ s0 < 8) (h3 : arrSh s5 256) (h4 : 0 ≤ s4 ∧ s4 < 256) (k : ∀ M', M' = (put M s5 s4 (yor s3 (yshl s2 (ld M s1 s0)))) → XW kX9_prepare d none (wQv Q) 38 [some (.inr (.inr x0)), some (.inl x1), none, none] [] M') : XW kX9_prepare d none (wQv Q) 34 [some (.inr (.inr x0)), some (.inl x1), none, none] [.inl s0, .inr (.inr s1), .inl s2, .inl s3, .inl s4, .inr (.inr s5)] M := by
  refine x_iaload rfl h1 h2 ?_
  refine x_ishl rfl ?_
  refine x_ior rfl ?_
  refine x_iastore rfl h3 h4  ?_
  exact k _ rfl
theorem uX9_prepare_38 {d : Nat} {Q : yM → Prop} {M : yM} {x0 : Nat} {x1 : Int} (k : XW kX9_prepare d none (wQv Q) 2 [some (.inr (.inr x0)), some (.inl (x1 + 1)), none, none] [] M) : XW kX9_prepare d none (wQv Q) 38 [some (.inr (.inr x0)), some (.inl x1), none, none] [] M := by
  refine x_iinc 1 rfl (by decide) rfl rfl ?_
  exact x_goto rfl k
theorem uX9_prepare_44 {d : Nat} {Q : yM → Prop} {M : yM} {x0 : Nat} {x1 : Int} (h1 : tabSh x0) (kt : (ld M x0 0) ≤ 4 → XW kX9_prepare d none (wQv Q) 56 [some (.inr (.inr x0)), some (.inl x1), none, none] [] M) (kf : (ld M x0 0) > 4 → XW kX9_prepare d none (wQv Q) 52 [some (.inr (.inr x0)), some (.inl x1), none, none] [] M) : XW kX9_prepare d none (wQv Q) 44 [some (.inr (.inr x0)), some (.inl x1), none, none] [] M := by
  refine x_aload_n rfl rfl ?_
  refine x_getI rfl h1.1 rfl ?_
  refine x_iconst 4 rfl (by decide) ?_
  exact x_icmple rfl (rng_ld _ _ _) (by decide) kt kf
theorem uX9_prepare_52 {d : Nat} {Q : yM → Prop} {M : yM} {x0 : Nat} {x1 : Int} (k : XW kX9_prepare d none (wQv Q) 57 [some (.inr (.inr x0)), some (.inl x1), none, none] [.inl 2] M) : XW kX9_prepare d none (wQv Q) 52 [some (.inr (.inr x0)), some (.inl x1), none, none] [] M := by
  refine x_iconst 2 rfl (by decide) ?_
  exact x_goto rfl k
theorem uX9_prepare_56 {d : Nat} {Q : yM → Prop} {M : yM} {x0 : Nat} {x1 : Int} (k : XW kX9_prepare d none (wQv Q) 57 [some (.inr (.inr x0)), some (.inl x1), none, none] [.inl 1] M) : XW kX9_prepare d none (wQv Q) 56 [some (.inr (.inr x0)), some (.inl x1), none, none] [] M := by
  refine x_iconst 1 rfl (by decide) ?_
  exact k
theorem uX9_prepare_57 {d : Nat} {Q : yM → Prop} {M : yM} {x0 : Nat} {x1 : Int} {s0 : Int} (k : XW kX9_prepare d none (wQv Q) 60 [some (.inr (.inr x0)), some (.inl s0), some (.inl 0), none] [] M) : XW kX9_prepare d none (wQv Q) 57 [some (.inr (.inr x0)), some (.inl x1), none, none] [.inl s0] M := by
  refine x_istore_n rfl (Nat.le_of_ble_eq_true rfl) rfl ?_
  refine x_iconst 0 rfl (by decide) ?_
  refine x_istore_n rfl (Nat.le_of_ble_eq_true rfl) rfl ?_
  exact k
theorem uX9_prepare_60 {d : Nat} {Q : yM → Prop} {M : yM} {x0 : Nat} {x1 : Int} {x2 : Int} {wx3 : Option yV} (h1 : -2147483648 ≤ x2 ∧ x2 < 2147483648) (h2 : -2147483648 ≤ x1 ∧ x1 < 2147483648) (kt : x2 ≥ x1 → XW kX9_prepare d none (wQv Q) 90 [some (.inr (.inr x0)), some (.inl x1), some (.inl x2), wx3] [] M) (kf : x2 < x1 → XW kX9_prepare d none (wQv Q) 65 [some (.inr (.inr x0)), some (.inl x1), some (.inl x2), wx3] [] M) : XW kX9_prepare d none (wQv Q) 60 [some (.inr (.inr x0)), some (.inl x1), some (.inl x2), wx3] [] M := by
  refine x_iload_n rfl rfl ?_
  refine x_iload_n rfl rfl ?_
  exact x_icmpge rfl h1 h2 kt kf
theorem uX9_prepare_65 {d : Nat} {Q : yM → Prop} {M : yM} {x0 : Nat} {x1 : Int} {x2 : Int} {wx3 : Option yV} (k : XW kX9_prepare d none (wQv Q) 67 [some (.inr (.inr x0)), some (.inl x1), some (.inl x2), some (.inl 0)] [] M) : XW kX9_prepare d none (wQv Q) 65 [some (.inr (.inr x0)), some (.inl x1), some (.inl x2), wx3] [] M := by
  refine x_iconst 0 rfl (by decide) ?_
  refine x_istore_n rfl (Nat.le_of_ble_eq_true rfl) rfl ?_
  exact k
theorem uX9_prepare_67 {d : Nat} {Q : yM → Prop} {M : yM} {x0 : Nat} {x1 : Int} {x2 : Int} {x3 : Int} (h1 : -2147483648 ≤ x3 ∧ x3 < 2147483648) (h2 : -2147483648 ≤ x1 ∧ x1 < 2147483648) (kt : x3 ≥ x1 → XW kX9_prepare d none (wQv Q) 84 [some (.inr (.inr x0)), some (.inl x1), some (.inl x2), some (.inl x3)] [] M) (kf : x3 < x1 → XW kX9_prepare d none (wQv Q) 72 [some (.inr (.inr x0)), some (.inl x1), some (.inl x2), some (.inl x3)] [] M) : XW kX9_prepare d none (wQv Q) 67 [some (.inr (.inr x0)), some (.inl x1), some (.inl x2), some (.inl x3)] [] M := by
  refine x_iload_n rfl rfl ?_
  refine x_iload_n rfl rfl ?_
  exact x_icmpge rfl h1 h2 kt kf
theorem uX9_prepare_72 {d : Nat} {Q : yM → Prop} {M : yM} {x0 : Nat} {x1 : Int} {x2 : Int} {x3 : Int} (k : XCv d 69 [.inr (.inr x0), .inl x2, .inl x3] M (fun M' => XW kX9_prepare (d + 1) none (wQv Q) 78 [some (.inr (.inr x0)), some (.inl x1), some (.inl x2), some (.inl x3)] [] M')) : XW kX9_prepare (d + 1) none (wQv Q) 72 [some (.inr (.inr x0)), some (.inl x1), some (.inl x2), some (.inl x3)] [] M := by
  refine x_aload_n rfl rfl ?_
  refine x_iload_n rfl rfl ?_
  refine x_iload_n rfl rfl ?_
  exact x_callv (args := [.inr (.inr x0), .inl x2, .inl x3]) rfl rfl rfl k
theorem uX9_prepare_78 {d : Nat} {Q : yM → Prop} {M : yM} {x0 : Nat} {x1 : Int} {x2 : Int} {x3 : Int} (k : XW kX9_prepare d none (wQv Q) 67 [some (.inr (.inr x0)), some (.inl x1), some (.inl x2), some (.inl (x3 + 1))] [] M) : XW kX9_prepare d none (wQv Q) 78 [some (.inr (.inr x0)), some (.inl x1), some (.inl x2), some (.inl x3)] [] M := by
  refine x_iinc 1 rfl (by decide) rfl rfl ?_
  exact x_goto rfl k
theorem uX9_prepare_84 {d : Nat} {Q : yM → Prop} {M : yM} {x0 : Nat} {x1 : Int} {x2 : Int} {x3 : Int} (k : XW kX9_prepare d none (wQv Q) 60 [some (.inr (.inr x0)), some (.inl x1), some (.inl (x2 + 1)), some (.inl x3)] [] M) : XW kX9_prepare d none (wQv Q) 84 [some (.inr (.inr x0)), some (.inl x1), some (.inl x2), some (.inl x3)] [] M := by
  refine x_iinc 1 rfl (by decide) rfl rfl ?_
  exact x_goto rfl k
theorem uX9_prepare_90 {d : Nat} {Q : yM → Prop} {M : yM} {x0 : Nat} {x1 : Int} {x2 : Int} {wx3 : Option yV} (k : Q M) : XW kX9_prepare d none (wQv Q) 90 [some (.inr (.inr x0)), some (.inl x1), some (.inl x2), wx3] [] M := by
  exact x_return rfl k
theorem eX9_prepareHalves {d : Nat} {Q : yM → Prop} {M : yM} {x0 : Nat} {x1 : Int} {x2 : Int} (hT : tabSh x0) (h : XW kX9_prepareHalves d none (wQv Q) 0 [some (.inr (.inr x0)), some (.inl x1), some (.inl x2), none, none, none, none, none, none] [] M) : XCv d 69 [.inr (.inr x0), .inl x1, .inl x2] M Q :=
  XC.ofW (Mm := (yX9_prepareHalves, cX9_prepareHalves, 9, none, 10, kX9_prepareHalves)) rfl (rcv_ok hT.1) rfl rfl h
theorem uX9_prepareHalves_0 {d : Nat} {Q : yM → Prop} {M : yM} {x0 : Nat} {x1 : Int} {x2 : Int} (k : XW kX9_prepareHalves d none (wQv Q) 15 [some (.inr (.inr x0)), some (.inl x1), some (.inl x2), some (.inl ((512 * x1) + (256 * x2))), some (.inl 1), none, none, none, none] [] M) : XW kX9_prepareHalves d none (wQv Q) 0 [some (.inr (.inr x0)), some (.inl x1), some (.inl x2), none, none, none, none, none, none] [] M := by
  refine x_sipush 512 rfl (by decide) ?_
  refine x_iload_n rfl rfl ?_
  refine x_imul rfl ?_
  refine x_sipush 256 rfl (by decide) ?_
  refine x_iload_n rfl rfl ?_
  refine x_imul rfl ?_
  refine x_iadd rfl ?_
  refine x_istore_n rfl (Nat.le_of_ble_eq_true rfl) rfl ?_
  refine x_iconst 1 rfl (by decide) ?_
  refine x_istore rfl (Nat.le_of_ble_eq_true rfl) rfl ?_
  exact k
theorem uX9_prepareHalves_15 {d : Nat} {Q : yM → Prop} {M : yM} {x0 : Nat} {x1 : Int} {x2 : Int} {x3 : Int} {x4 : Int} {wx5 : Option yV} {wx6 : Option yV} {wx7 : Option yV} {wx8 : Option yV} (h1 : -2147483648 ≤ x4 ∧ x4 < 2147483648) (kt : x4 ≥ 16 → XW kX9_prepareHalves d none (wQv Q) 196 [some (.inr (.inr x0)), some (.inl x1), some (.inl x2), some (.inl x3), some (.inl x4), wx5, wx6, wx7, wx8] [] M) (kf : x4 < 16 → XW kX9_prepareHalves d none (wQv Q) 22 [some (.inr (.inr x0)), some (.inl x1), some (.inl x2), some (.inl x3), some (.inl x4), wx5, wx6, wx7, wx8] [] M) : XW kX9_prepareHalves d none (wQv Q) 15 [some (.inr (.inr x0)), some (.inl x1), some (.inl x2), some (.inl x3), some (.inl x4), wx5, wx6, wx7, wx8] [] M := by
  refine x_iload rfl rfl ?_
  refine x_bipush 16 rfl (by decide) ?_
  exact x_icmpge rfl h1 (by decide) kt kf
theorem uX9_prepareHalves_22 {d : Nat} {Q : yM → Prop} {M : yM} {x0 : Nat} {x1 : Int} {x2 : Int} {x3 : Int} {x4 : Int} {wx5 : Option yV} {wx6 : Option yV} {wx7 : Option yV} {wx8 : Option yV} (k : XW kX9_prepareHalves d none (wQv Q) 25 [some (.inr (.inr x0)), some (.inl x1), some (.inl x2), some (.inl x3), some (.inl x4), some (.inl 1), wx6, wx7, wx8] [] M) : XW kX9_prepareHalves d none (wQv Q) 22 [some (.inr (.inr x0)), some (.inl x1), some (.inl x2), some (.inl x3), some (.inl x4), wx5, wx6, wx7, wx8] [] M := by
  refine x_iconst 1 rfl (by decide) ?_
  refine x_istore rfl (Nat.le_of_ble_eq_true rfl) rfl ?_
  exact k
theorem uX9_prepareHalves_25 {d : Nat} {Q : yM → Prop} {M : yM} {x0 : Nat} {x1 : Int} {x2 : Int} {x3 : Int} {x4 : Int} {x5 : Int} {wx6 : Option yV} {wx7 : Option yV} {wx8 : Option yV} (h1 : -2147483648 ≤ x5 ∧ x5 < 2147483648) (kt : x5 ≥ 16 → XW kX9_prepareHalves d none (wQv Q) 190 [some (.inr (.inr x0)), some (.inl x1), some (.inl x2), some (.inl x3), some (.inl x4), some (.inl x5), wx6, wx7, wx8] [] M) (kf : x5 < 16 → XW kX9_prepareHalves d none (wQv Q) 32 [some (.inr (.inr x0)), some (.inl x1), some (.inl x2), some (.inl x3), some (.inl x4), some (.inl x5), wx6, wx7, wx8] [] M) : XW kX9_prepareHalves d none (wQv Q) 25 [some (.inr (.inr x0)), some (.inl x1), some (.inl x2), some (.inl x3), some (.inl x4), some (.inl x5), wx6, wx7, wx8] [] M := by
  refine x_iload rfl rfl ?_
  refine x_bipush 16 rfl (by decide) ?_
  exact x_icmpge rfl h1 (by decide) kt kf
theorem uX9_prepareHalves_32 {d : Nat} {Q : yM → Prop} {M : yM} {x0 : Nat} {x1 : Int} {x2 : Int} {x3 : Int} {x4 : Int} {x5 : Int} {wx6 : Option yV} {wx7 : Option yV} {wx8 : Option yV} (kt : (yand x4 (x4 - 1)) = 0 → XW kX9_prepareHalves d none (wQv Q) 94 [some (.inr (.inr x0)), some (.inl x1), some (.inl x2), some (.inl x3), some (.inl x4), some (.inl x5), some (.inl (yand x4 (x4 - 1))), some (.inl (yand x5 (x5 - 1))), wx8] [] M) (kf : (yand x4 (x4 - 1)) ≠ 0 → XW kX9_prepareHalves d none (wQv Q) 55 [some (.inr (.inr x0)), some (.inl x1), some (.inl x2), some (.inl x3), some (.inl x4), some (.inl x5), some (.inl (yand x4 (x4 - 1))), some (.inl (yand x5 (x5 - 1))), wx8] [] M) : XW kX9_prepareHalves d none (wQv Q) 32 [some (.inr (.inr x0)), some (.inl x1), some (.inl x2), some (.inl x3), some (.inl x4), some (.inl x5), wx6, wx7, wx8] [] M := by
  refine x_iload rfl rfl ?_
  refine x_iload rfl rfl ?_
  refine x_iconst 1 rfl (by decide) ?_
  refine x_isub rfl ?_
  refine x_iand rfl ?_
  refine x_istore rfl (Nat.le_of_ble_eq_true rfl) rfl ?_
  refine x_iload rfl rfl ?_
  refine x_iload rfl rfl ?_
  refine x_iconst 1 rfl (by decide) ?_
  refine x_isub rfl ?_
  refine x_iand rfl ?_
  refine x_istore rfl (Nat.le_of_ble_eq_true rfl) rfl ?_
  refine x_iload rfl rfl ?_
  exact x_ifeq rfl (rng_yand _ _) kt kf
theorem uX9_prepareHalves_55 {d : Nat} {Q : yM → Prop} {M : yM} {x0 : Nat} {x1 : Int} {x2 : Int} {x3 : Int} {x4 : Int} {x5 : Int} {x6 : Int} {x7 : Int} {wx8 : Option yV} (h1 : tabSh x0) (h2 : 0 ≤ ((x3 + (16 * x6)) + x5) ∧ ((x3 + (16 * x6)) + x5) < 1024) (h3 : 0 ≤ ((x3 + (16 * (x4 - x6))) + x5) ∧ ((x3 + (16 * (x4 - x6))) + x5) < 1024) (k : XW kX9_prepareHalves d none (wQv Q) 167 [some (.inr (.inr x0)), some (.inl x1), some (.inl x2), some (.inl x3), some (.inl x4), some (.inl x5), some (.inl x6), some (.inl x7), some (.inl (yor (ld M (x0 + 4) ((x3 + (16 * x6)) + x5)) (ld M (x0 + 4) ((x3 + (16 * (x4 - x6))) + x5))))] [] M) : XW kX9_prepareHalves d none (wQv Q) 55 [some (.inr (.inr x0)), some (.inl x1), some (.inl x2), some (.inl x3), some (.inl x4), some (.inl x5), some (.inl x6), some (.inl x7), wx8] [] M := by
  refine x_aload_n rfl rfl ?_
  refine x_getR rfl h1.1 rfl ?_
  refine x_iload_n rfl rfl ?_
  refine x_bipush 16 rfl (by decide) ?_
  refine x_iload rfl rfl ?_
  refine x_imul rfl ?_
  refine x_iadd rfl ?_
  refine x_iload rfl rfl ?_
  refine x_iadd rfl ?_
  refine x_iaload rfl h1.2.2.2.2.1 h2 ?_
  refine x_aload_n rfl rfl ?_
  refine x_getR rfl h1.1 rfl ?_
  refine x_iload_n rfl rfl ?_
  refine x_bipush 16 rfl (by decide) ?_
  refine x_iload rfl rfl ?_
  refine x_iload rfl rfl ?_
  refine x_isub rfl ?_
  refine x_imul rfl ?_
  refine x_iadd rfl ?_
  refine x_iload rfl rfl ?_
  refine x_iadd rfl ?_
  refine x_iaload rfl h1.2.2.2.2.1 h3 ?_
  refine x_ior rfl ?_
  refine x_istore rfl (Nat.le_of_ble_eq_true rfl) rfl ?_
  exact x_goto rfl k
theorem uX9_prepareHalves_94 {d : Nat} {Q : yM → Prop} {M : yM} {x0 : Nat} {x1 : Int} {x2 : Int} {x3 : Int} {x4 : Int} {x5 : Int} {x6 : Int} {x7 : Int} {wx8 : Option yV} (h1 : -2147483648 ≤ x7 ∧ x7 < 2147483648) (kt : x7 = 0 → XW kX9_prepareHalves d none (wQv Q) 138 [some (.inr (.inr x0)), some (.inl x1), some (.inl x2), some (.inl x3), some (.inl x4), some (.inl x5), some (.inl x6), some (.inl x7), wx8] [] M) (kf : x7 ≠ 0 → XW kX9_prepareHalves d none (wQv Q) 99 [some (.inr (.inr x0)), some (.inl x1), some (.inl x2), some (.inl x3), some (.inl x4), some (.inl x5), some (.inl x6), some (.inl x7), wx8] [] M) : XW kX9_prepareHalves d none (wQv Q) 94 [some (.inr (.inr x0)), some (.inl x1), some (.inl x2), some (.inl x3), some (.inl x4), some (.inl x5), some (.inl x6), some (.inl x7), wx8] [] M := by
  refine x_iload rfl rfl ?_
  exact x_ifeq rfl h1 kt kf
theorem uX9_prepareHalves_99 {d : Nat} {Q : yM → Prop} {M : yM} {x0 : Nat} {x1 : Int} {x2 : Int} {x3 : Int} {x4 : Int} {x5 : Int} {x6 : Int} {x7 : Int} {wx8 : Option yV} (h1 : tabSh x0) (h2 : 0 ≤ ((x3 + (16 * x4)) + x7) ∧ ((x3 + (16 * x4)) + x7) < 1024) (h3 : 0 ≤ (((x3 + (16 * x4)) + x5) - x7) ∧ (((x3 + (16 * x4)) + x5) - x7) < 1024) (k : XW kX9_prepareHalves d none (wQv Q) 167 [some (.inr (.inr x0)), some (.inl x1), some (.inl x2), some (.inl x3), some (.inl x4), some (.inl x5), some (.inl x6), some (.inl x7), some (.inl (yor (ld M (x0 + 4) ((x3 + (16 * x4)) + x7)) (ld M (x0 + 4) (((x3 + (16 * x4)) + x5) - x7))))] [] M) : XW kX9_prepareHalves d none (wQv Q) 99 [some (.inr (.inr x0)), some (.inl x1), some (.inl x2), some (.inl x3), some (.inl x4), some (.inl x5), some (.inl x6), some (.inl x7), wx8] [] M := by
  refine x_aload_n rfl rfl ?_
  refine x_getR rfl h1.1 rfl ?_
  refine x_iload_n rfl rfl ?_
  refine x_bipush 16 rfl (by decide) ?_
  refine x_iload rfl rfl ?_
  refine x_imul rfl ?_
  refine x_iadd rfl ?_
  refine x_iload rfl rfl ?_
  refine x_iadd rfl ?_
  refine x_iaload rfl h1.2.2.2.2.1 h2 ?_
  refine x_aload_n rfl rfl ?_
  refine x_getR rfl h1.1 rfl ?_
  refine x_iload_n rfl rfl ?_
  refine x_bipush 16 rfl (by decide) ?_
  refine x_iload rfl rfl ?_
  refine x_imul rfl ?_
  refine x_iadd rfl ?_
  refine x_iload rfl rfl ?_
  refine x_iadd rfl ?_
  refine x_iload rfl rfl ?_
  refine x_isub rfl ?_
  refine x_iaload rfl h1.2.2.2.2.1 h3 ?_
  refine x_ior rfl ?_
  refine x_istore rfl (Nat.le_of_ble_eq_true rfl) rfl ?_
  exact x_goto rfl k
theorem uX9_prepareHalves_138 {d : Nat} {Q : yM → Prop} {M : yM} {x0 : Nat} {x1 : Int} {x2 : Int} {x3 : Int} {x4 : Int} {x5 : Int} {x6 : Int} {x7 : Int} {wx8 : Option yV} (h1 : tabSh x0) (k : XCi d 116 [.inl x4] M (fun v M' => XW kX9_prepareHalves (d + 1) none (wQv Q) 152 [some (.inr (.inr x0)), some (.inl x1), some (.inl x2), some (.inl x3), some (.inl x4), some (.inl x5), some (.inl x6), some (.inl x7), wx8] [.inl v, .inl (4 * x1), .inl 8, .inr (.inr (x0 + 2))] M')) : XW kX9_prepareHalves (d + 1) none (wQv Q) 138 [some (.inr (.inr x0)), some (.inl x1), some (.inl x2), some (.inl x3), some (.inl x4), some (.inl x5), some (.inl x6), some (.inl x7), wx8] [] M := by
  refine x_aload_n rfl rfl ?_
  refine x_getR rfl h1.1 rfl ?_
  refine x_bipush 8 rfl (by decide) ?_
  refine x_iconst 4 rfl (by decide) ?_
  refine x_iload_n rfl rfl ?_
  refine x_imul rfl ?_
  refine x_iload rfl rfl ?_
  exact x_calli (args := [.inl x4]) rfl rfl rfl k
theorem uX9_prepareHalves_152 {d : Nat} {Q : yM → Prop} {M : yM} {x0 : Nat} {x1 : Int} {x2 : Int} {x3 : Int} {x4 : Int} {x5 : Int} {x6 : Int} {x7 : Int} {wx8 : Option yV} {s0 : Int} {s1 : Int} {s2 : Int} {s3 : Nat} (k : XCi d 116 [.inl x5] M (fun v M' => XW kX9_prepareHalves (d + 1) none (wQv Q) 163 [some (.inr (.inr x0)), some (.inl x1), some (.inl x2), some (.inl x3), some (.inl x4), some (.inl x5), some (.inl x6), some (.inl x7), wx8] [.inl v, .inl ((s2 * (s1 + s0)) + (4 * x2)), .inr (.inr s3)] M')) : XW kX9_prepareHalves (d + 1) none (wQv Q) 152 [some (.inr (.inr x0)), some (.inl x1), some (.inl x2), some (.inl x3), some (.inl x4), some (.inl x5), some (.inl x6), some (.inl x7), wx8] [.inl s0, .inl s1, .inl s2, .inr (.inr s3)] M := by
  refine x_iadd rfl ?_
  refine x_imul rfl ?_
  refine x_iconst 4 rfl (by decide) ?_
  refine x_iload_n rfl rfl ?_
  refine x_imul rfl ?_
  refine x_iadd rfl ?_
  refine x_iload rfl rfl ?_
  exact x_calli (args := [.inl x5]) rfl rfl rfl k
theorem uX9_prepareHalves_163 {d : Nat} {Q : yM → Prop} {M : yM} {x0 : Nat} {x1 : Int} {x2 : Int} {x3 : Int} {x4 : Int} {x5 : Int} {x6 : Int} {x7 : Int} {wx8 : Option yV} {s0 : Int} {s1 : Int} {s2 : Nat} (h1 : arrSh s2 64) (h2 : 0 ≤ (s1 + s0) ∧ (s1 + s0) < 64) (k : XW kX9_prepareHalves d none (wQv Q) 167 [some (.inr (.inr x0)), some (.inl x1), some (.inl x2), some (.inl x3), some (.inl x4), some (.inl x5), some (.inl x6), some (.inl x7), some (.inl (ld M s2 (s1 + s0)))] [] M) : XW kX9_prepareHalves d none (wQv Q) 163 [some (.inr (.inr x0)), some (.inl x1), some (.inl x2), some (.inl x3), some (.inl x4), some (.inl x5), some (.inl x6), some (.inl x7), wx8] [.inl s0, .inl s1, .inr (.inr s2)] M := by
  refine x_iadd rfl ?_
  refine x_iaload rfl h1 h2 ?_
  refine x_istore rfl (Nat.le_of_ble_eq_true rfl) rfl ?_
  exact k
theorem uX9_prepareHalves_167 {d : Nat} {Q : yM → Prop} {M : yM} {x0 : Nat} {x1 : Int} {x2 : Int} {x3 : Int} {x4 : Int} {x5 : Int} {x6 : Int} {x7 : Int} {x8 : Int} (h1 : tabSh x0) (h2 : 0 ≤ ((x3 + (16 * x4)) + x5) ∧ ((x3 + (16 * x4)) + x5) < 1024) (k : ∀ M', M' = (put M (x0 + 4) ((x3 + (16 * x4)) + x5) x8) → XW kX9_prepareHalves d none (wQv Q) 184 [some (.inr (.inr x0)), some (.inl x1), some (.inl x2), some (.inl x3), some (.inl x4), some (.inl x5), some (.inl x6), some (.inl x7), some (.inl x8)] [] M') : XW kX9_prepareHalves d none (wQv Q) 167 [some (.inr (.inr x0)), some (.inl x1), some (.inl x2), some (.inl x3), some (.inl x4), some (.inl x5), some (.inl x6), some (.inl x7), some (.inl x8)] [] M := by
  refine x_aload_n rfl rfl ?_
  refine x_getR rfl h1.1 rfl ?_
  refine x_iload_n rfl rfl ?_
  refine x_bipush 16 rfl (by decide) ?_
  refine x_iload rfl rfl ?_
  refine x_imul rfl ?_
  refine x_iadd rfl ?_
  refine x_iload rfl rfl ?_
  refine x_iadd rfl ?_
  refine x_iload rfl rfl ?_
  refine x_iastore rfl h1.2.2.2.2.1 h2  ?_
  exact k _ rfl
theorem uX9_prepareHalves_184 {d : Nat} {Q : yM → Prop} {M : yM} {x0 : Nat} {x1 : Int} {x2 : Int} {x3 : Int} {x4 : Int} {x5 : Int} {x6 : Int} {x7 : Int} {x8 : Int} (k : XW kX9_prepareHalves d none (wQv Q) 25 [some (.inr (.inr x0)), some (.inl x1), some (.inl x2), some (.inl x3), some (.inl x4), some (.inl (x5 + 1)), some (.inl x6), some (.inl x7), some (.inl x8)] [] M) : XW kX9_prepareHalves d none (wQv Q) 184 [some (.inr (.inr x0)), some (.inl x1), some (.inl x2), some (.inl x3), some (.inl x4), some (.inl x5), some (.inl x6), some (.inl x7), some (.inl x8)] [] M := by
  refine x_iinc 1 rfl (by decide) rfl rfl ?_
  exact x_goto rfl k
theorem uX9_prepareHalves_190 {d : Nat} {Q : yM → Prop} {M : yM} {x0 : Nat} {x1 : Int} {x2 : Int} {x3 : Int} {x4 : Int} {x5 : Int} {wx6 : Option yV} {wx7 : Option yV} {wx8 : Option yV} (k : XW kX9_prepareHalves d none (wQv Q) 15 [some (.inr (.inr x0)), some (.inl x1), some (.inl x2), some (.inl x3), some (.inl (x4 + 1)), some (.inl x5), wx6, wx7, wx8] [] M) : XW kX9_prepareHalves d none (wQv Q) 190 [some (.inr (.inr x0)), some (.inl x1), some (.inl x2), some (.inl x3), some (.inl x4), some (.inl x5), wx6, wx7, wx8] [] M := by
  refine x_iinc 1 rfl (by decide) rfl rfl ?_
  exact x_goto rfl k
theorem uX9_prepareHalves_196 {d : Nat} {Q : yM → Prop} {M : yM} {x0 : Nat} {x1 : Int} {x2 : Int} {x3 : Int} {x4 : Int} {wx5 : Option yV} {wx6 : Option yV} {wx7 : Option yV} {wx8 : Option yV} (k : Q M) : XW kX9_prepareHalves d none (wQv Q) 196 [some (.inr (.inr x0)), some (.inl x1), some (.inl x2), some (.inl x3), some (.inl x4), wx5, wx6, wx7, wx8] [] M := by
  exact x_return rfl k
