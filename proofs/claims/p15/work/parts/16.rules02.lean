theorem eX9_all {d : Nat} {Q : Int → yM → Prop} {M : yM}   (h : XW kX9_all d (some .int) (wQi Q) 0 [some (.inr (.inr 1))] [] M) : XCi d 60 [.inr (.inr 1)] M Q :=
  XC.ofW (Mm := (yX9_all, cX9_all, 1, (some .int), 10, kX9_all)) rfl (rcv_ok sh1) rfl rfl h
theorem uX9_all_0 {d : Nat} {Q : Int → yM → Prop} {M : yM}  (k : Q ((yshl 1 (ld M 1 0)) - 1) M) : XW kX9_all d (some .int) (wQi Q) 0 [some (.inr (.inr 1))] [] M := by
  refine x_iconst 1 rfl (by decide) ?_
  refine x_aload_n rfl rfl ?_
  refine x_getI rfl sh1 rfl ?_
  refine x_ishl rfl ?_
  refine x_iconst 1 rfl (by decide) ?_
  refine x_isub rfl ?_
  exact x_ireturn rfl k
theorem eX9_hasSet {d : Nat} {Q : Int → yM → Prop} {M : yM} {x1 : Int}  (h : XW kX9_hasSet d (some .boolean) (wQi Q) 0 [some (.inr (.inr 1)), some (.inl x1)] [] M) : XCi d 61 [.inr (.inr 1), .inl x1] M Q :=
  XC.ofW (Mm := (yX9_hasSet, cX9_hasSet, 2, (some .boolean), 10, kX9_hasSet)) rfl (rcv_ok sh1) rfl rfl h
theorem uX9_hasSet_0 {d : Nat} {Q : Int → yM → Prop} {M : yM} {x1 : Int} (h1 : -2147483648 ≤ x1 ∧ x1 < 2147483648) (kt : x1 < 0 → XW kX9_hasSet d (some .boolean) (wQi Q) 16 [some (.inr (.inr 1)), some (.inl x1)] [] M) (kf : x1 ≥ 0 → XW kX9_hasSet d (some .boolean) (wQi Q) 4 [some (.inr (.inr 1)), some (.inl x1)] [] M) : XW kX9_hasSet d (some .boolean) (wQi Q) 0 [some (.inr (.inr 1)), some (.inl x1)] [] M := by
  refine x_iload_n rfl rfl ?_
  exact x_iflt rfl h1 kt kf
theorem uX9_hasSet_4 {d : Nat} {Q : Int → yM → Prop} {M : yM} {x1 : Int} (k : XCi d 60 [.inr (.inr 1)] M (fun v M' => XW kX9_hasSet (d + 1) (some .boolean) (wQi Q) 9 [some (.inr (.inr 1)), some (.inl x1)] [.inl v, .inl x1] M')) : XW kX9_hasSet (d + 1) (some .boolean) (wQi Q) 4 [some (.inr (.inr 1)), some (.inl x1)] [] M := by
  refine x_iload_n rfl rfl ?_
  refine x_aload_n rfl rfl ?_
  exact x_calli (args := [.inr (.inr 1)]) rfl rfl rfl k
theorem uX9_hasSet_9 {d : Nat} {Q : Int → yM → Prop} {M : yM} {x1 : Int} {s0 : Int} {s1 : Int} (h1 : -2147483648 ≤ s1 ∧ s1 < 2147483648) (h2 : -2147483648 ≤ s0 ∧ s0 < 2147483648) (kt : s1 > s0 → XW kX9_hasSet d (some .boolean) (wQi Q) 16 [some (.inr (.inr 1)), some (.inl x1)] [] M) (kf : s1 ≤ s0 → XW kX9_hasSet d (some .boolean) (wQi Q) 12 [some (.inr (.inr 1)), some (.inl x1)] [] M) : XW kX9_hasSet d (some .boolean) (wQi Q) 9 [some (.inr (.inr 1)), some (.inl x1)] [.inl s0, .inl s1] M := by
  exact x_icmpgt rfl h1 h2 kt kf
theorem uX9_hasSet_12 {d : Nat} {Q : Int → yM → Prop} {M : yM} {x1 : Int} (k : XW kX9_hasSet d (some .boolean) (wQi Q) 17 [some (.inr (.inr 1)), some (.inl x1)] [.inl 1] M) : XW kX9_hasSet d (some .boolean) (wQi Q) 12 [some (.inr (.inr 1)), some (.inl x1)] [] M := by
  refine x_iconst 1 rfl (by decide) ?_
  exact x_goto rfl k
theorem uX9_hasSet_16 {d : Nat} {Q : Int → yM → Prop} {M : yM} {x1 : Int} (k : XW kX9_hasSet d (some .boolean) (wQi Q) 17 [some (.inr (.inr 1)), some (.inl x1)] [.inl 0] M) : XW kX9_hasSet d (some .boolean) (wQi Q) 16 [some (.inr (.inr 1)), some (.inl x1)] [] M := by
  refine x_iconst 0 rfl (by decide) ?_
  exact k
theorem uX9_hasSet_17 {d : Nat} {Q : Int → yM → Prop} {M : yM} {x1 : Int} {s0 : Int} (h1 : s0 = 0 ∨ s0 = 1) (k : Q s0 M) : XW kX9_hasSet d (some .boolean) (wQi Q) 17 [some (.inr (.inr 1)), some (.inl x1)] [.inl s0] M := by
  exact x_zreturn rfl h1 k
theorem eX9_restart {d : Nat} {Q : yM → Prop} {M : yM} {x1 : Int}  (h : XW kX9_restart d none (wQv Q) 0 [some (.inr (.inr 1)), some (.inl x1), none] [] M) : XCv d 62 [.inr (.inr 1), .inl x1] M Q :=
  XC.ofW (Mm := (yX9_restart, cX9_restart, 3, none, 10, kX9_restart)) rfl (rcv_ok sh1) rfl rfl h
theorem uX9_restart_0 {d : Nat} {Q : yM → Prop} {M : yM} {x1 : Int} (k : ∀ M', M' = (put M 1 0 x1) → XW kX9_restart d none (wQv Q) 5 [some (.inr (.inr 1)), some (.inl x1), none] [] M') : XW kX9_restart d none (wQv Q) 0 [some (.inr (.inr 1)), some (.inl x1), none] [] M := by
  refine x_aload_n rfl rfl ?_
  refine x_iload_n rfl rfl ?_
  refine x_putI rfl rfl sh1 rfl ?_
  exact k _ rfl
theorem uX9_restart_5 {d : Nat} {Q : yM → Prop} {M : yM} {x1 : Int} (k : XW kX9_restart d none (wQv Q) 7 [some (.inr (.inr 1)), some (.inl x1), some (.inl 0)] [] M) : XW kX9_restart d none (wQv Q) 5 [some (.inr (.inr 1)), some (.inl x1), none] [] M := by
  refine x_iconst 0 rfl (by decide) ?_
  refine x_istore_n rfl (Nat.le_of_ble_eq_true rfl) rfl ?_
  exact k
theorem uX9_restart_7 {d : Nat} {Q : yM → Prop} {M : yM} {x1 : Int} {x2 : Int} (h1 : -2147483648 ≤ x2 ∧ x2 < 2147483648) (kt : x2 ≥ 8 → XW kX9_restart d none (wQv Q) 26 [some (.inr (.inr 1)), some (.inl x1), some (.inl x2)] [] M) (kf : x2 < 8 → XW kX9_restart d none (wQv Q) 13 [some (.inr (.inr 1)), some (.inl x1), some (.inl x2)] [] M) : XW kX9_restart d none (wQv Q) 7 [some (.inr (.inr 1)), some (.inl x1), some (.inl x2)] [] M := by
  refine x_iload_n rfl rfl ?_
  refine x_bipush 8 rfl (by decide) ?_
  exact x_icmpge rfl h1 (by decide) kt kf
theorem uX9_restart_13 {d : Nat} {Q : yM → Prop} {M : yM} {x1 : Int} {x2 : Int} (h1 : 0 ≤ x2 ∧ x2 < 8) (k : ∀ M', M' = (put M 2 x2 x2) → XW kX9_restart d none (wQv Q) 20 [some (.inr (.inr 1)), some (.inl x1), some (.inl x2)] [] M') : XW kX9_restart d none (wQv Q) 13 [some (.inr (.inr 1)), some (.inl x1), some (.inl x2)] [] M := by
  refine x_aload_n rfl rfl ?_
  refine x_getR rfl sh1 rfl ?_
  refine x_iload_n rfl rfl ?_
  refine x_iload_n rfl rfl ?_
  refine x_iastore rfl ⟨sh2, Nat.le_of_ble_eq_true rfl⟩ h1  ?_
  exact k _ rfl
theorem uX9_restart_20 {d : Nat} {Q : yM → Prop} {M : yM} {x1 : Int} {x2 : Int} (k : XW kX9_restart d none (wQv Q) 7 [some (.inr (.inr 1)), some (.inl x1), some (.inl (x2 + 1))] [] M) : XW kX9_restart d none (wQv Q) 20 [some (.inr (.inr 1)), some (.inl x1), some (.inl x2)] [] M := by
  refine x_iinc 1 rfl (by decide) rfl rfl ?_
  exact x_goto rfl k
theorem uX9_restart_26 {d : Nat} {Q : yM → Prop} {M : yM} {x1 : Int} {x2 : Int} (k : XCv d 64 [.inr (.inr 1)] M (fun M' => XW kX9_restart (d + 1) none (wQv Q) 30 [some (.inr (.inr 1)), some (.inl x1), some (.inl x2)] [] M')) : XW kX9_restart (d + 1) none (wQv Q) 26 [some (.inr (.inr 1)), some (.inl x1), some (.inl x2)] [] M := by
  refine x_aload_n rfl rfl ?_
  exact x_callv (args := [.inr (.inr 1)]) rfl rfl rfl k
theorem uX9_restart_30 {d : Nat} {Q : yM → Prop} {M : yM} {x1 : Int} {x2 : Int} (k : Q M) : XW kX9_restart d none (wQv Q) 30 [some (.inr (.inr 1)), some (.inl x1), some (.inl x2)] [] M := by
  exact x_return rfl k
theorem eX9_makeTurns {d : Nat} {Q : yM → Prop} {M : yM} {x1 : Int} {x2 : Int}  (h : XW kX9_makeTurns d none (wQv Q) 0 [some (.inr (.inr 1)), some (.inl x1), some (.inl x2), none, none] [] M) : XCv d 63 [.inr (.inr 1), .inl x1, .inl x2] M Q :=
  XC.ofW (Mm := (yX9_makeTurns, cX9_makeTurns, 5, none, 10, kX9_makeTurns)) rfl (rcv_ok sh1) rfl rfl h
theorem uX9_makeTurns_0 {d : Nat} {Q : yM → Prop} {M : yM} {x1 : Int} {x2 : Int} (h1 : 0 ≤ x1 ∧ x1 < 8) (h2 : 0 ≤ x2 ∧ x2 < 8) (h3 : 0 ≤ (ld M 2 x1) ∧ (ld M 2 x1) < 8) (k : ∀ M', M' = (put M 2 (ld M 2 x1) (ld M 2 x1)) → XW kX9_makeTurns d none (wQv Q) 22 [some (.inr (.inr 1)), some (.inl x1), some (.inl x2), some (.inl (ld M 2 x1)), some (.inl (ld M 2 x2))] [] M') : XW kX9_makeTurns d none (wQv Q) 0 [some (.inr (.inr 1)), some (.inl x1), some (.inl x2), none, none] [] M := by
  refine x_aload_n rfl rfl ?_
  refine x_getR rfl sh1 rfl ?_
  refine x_iload_n rfl rfl ?_
  refine x_iaload rfl ⟨sh2, Nat.le_of_ble_eq_true rfl⟩ h1 ?_
  refine x_istore_n rfl (Nat.le_of_ble_eq_true rfl) rfl ?_
  refine x_aload_n rfl rfl ?_
  refine x_getR rfl sh1 rfl ?_
  refine x_iload_n rfl rfl ?_
  refine x_iaload rfl ⟨sh2, Nat.le_of_ble_eq_true rfl⟩ h2 ?_
  refine x_istore rfl (Nat.le_of_ble_eq_true rfl) rfl ?_
  refine x_aload_n rfl rfl ?_
  refine x_getR rfl sh1 rfl ?_
  refine x_iload_n rfl rfl ?_
  refine x_iload_n rfl rfl ?_
  refine x_iastore rfl ⟨sh2, Nat.le_of_ble_eq_true rfl⟩ h3  ?_
  exact k _ rfl
theorem uX9_makeTurns_22 {d : Nat} {Q : yM → Prop} {M : yM} {x1 : Int} {x2 : Int} {x3 : Int} {x4 : Int} (h1 : 0 ≤ x4 ∧ x4 < 8) (k : ∀ M', M' = (put M 2 x4 x4) → XW kX9_makeTurns d none (wQv Q) 31 [some (.inr (.inr 1)), some (.inl x1), some (.inl x2), some (.inl x3), some (.inl x4)] [] M') : XW kX9_makeTurns d none (wQv Q) 22 [some (.inr (.inr 1)), some (.inl x1), some (.inl x2), some (.inl x3), some (.inl x4)] [] M := by
  refine x_aload_n rfl rfl ?_
  refine x_getR rfl sh1 rfl ?_
  refine x_iload rfl rfl ?_
  refine x_iload rfl rfl ?_
  refine x_iastore rfl ⟨sh2, Nat.le_of_ble_eq_true rfl⟩ h1  ?_
  exact k _ rfl
theorem uX9_makeTurns_31 {d : Nat} {Q : yM → Prop} {M : yM} {x1 : Int} {x2 : Int} {x3 : Int} {x4 : Int} (h1 : 0 ≤ x1 ∧ x1 < 8) (k : ∀ M', M' = (put M 2 x1 x2) → XW kX9_makeTurns d none (wQv Q) 38 [some (.inr (.inr 1)), some (.inl x1), some (.inl x2), some (.inl x3), some (.inl x4)] [] M') : XW kX9_makeTurns d none (wQv Q) 31 [some (.inr (.inr 1)), some (.inl x1), some (.inl x2), some (.inl x3), some (.inl x4)] [] M := by
  refine x_aload_n rfl rfl ?_
  refine x_getR rfl sh1 rfl ?_
  refine x_iload_n rfl rfl ?_
  refine x_iload_n rfl rfl ?_
  refine x_iastore rfl ⟨sh2, Nat.le_of_ble_eq_true rfl⟩ h1  ?_
  exact k _ rfl
theorem uX9_makeTurns_38 {d : Nat} {Q : yM → Prop} {M : yM} {x1 : Int} {x2 : Int} {x3 : Int} {x4 : Int} (h1 : 0 ≤ x2 ∧ x2 < 8) (k : ∀ M', M' = (put M 2 x2 x1) → XW kX9_makeTurns d none (wQv Q) 45 [some (.inr (.inr 1)), some (.inl x1), some (.inl x2), some (.inl x3), some (.inl x4)] [] M') : XW kX9_makeTurns d none (wQv Q) 38 [some (.inr (.inr 1)), some (.inl x1), some (.inl x2), some (.inl x3), some (.inl x4)] [] M := by
  refine x_aload_n rfl rfl ?_
  refine x_getR rfl sh1 rfl ?_
  refine x_iload_n rfl rfl ?_
  refine x_iload_n rfl rfl ?_
  refine x_iastore rfl ⟨sh2, Nat.le_of_ble_eq_true rfl⟩ h1  ?_
  exact k _ rfl
theorem uX9_makeTurns_45 {d : Nat} {Q : yM → Prop} {M : yM} {x1 : Int} {x2 : Int} {x3 : Int} {x4 : Int} (k : XCv d 64 [.inr (.inr 1)] M (fun M' => XW kX9_makeTurns (d + 1) none (wQv Q) 49 [some (.inr (.inr 1)), some (.inl x1), some (.inl x2), some (.inl x3), some (.inl x4)] [] M')) : XW kX9_makeTurns (d + 1) none (wQv Q) 45 [some (.inr (.inr 1)), some (.inl x1), some (.inl x2), some (.inl x3), some (.inl x4)] [] M := by
  refine x_aload_n rfl rfl ?_
  exact x_callv (args := [.inr (.inr 1)]) rfl rfl rfl k
theorem uX9_makeTurns_49 {d : Nat} {Q : yM → Prop} {M : yM} {x1 : Int} {x2 : Int} {x3 : Int} {x4 : Int} (k : Q M) : XW kX9_makeTurns d none (wQv Q) 49 [some (.inr (.inr 1)), some (.inl x1), some (.inl x2), some (.inl x3), some (.inl x4)] [] M := by
  exact x_return rfl k
theorem eX9_freeTriangles {d : Nat} {Q : yM → Prop} {M : yM}   (h : XW kX9_freeTriangles d none (wQv Q) 0 [some (.inr (.inr 1)), none, none, none] [] M) : XCv d 64 [.inr (.inr 1)] M Q :=
  XC.ofW (Mm := (yX9_freeTriangles, cX9_freeTriangles, 4, none, 10, kX9_freeTriangles)) rfl (rcv_ok sh1) rfl rfl h
theorem uX9_freeTriangles_0 {d : Nat} {Q : yM → Prop} {M : yM}  (k : XCi d 60 [.inr (.inr 1)] M (fun v M' => XW kX9_freeTriangles (d + 1) none (wQv Q) 4 [some (.inr (.inr 1)), none, none, none] [.inl v] M')) : XW kX9_freeTriangles (d + 1) none (wQv Q) 0 [some (.inr (.inr 1)), none, none, none] [] M := by
  refine x_aload_n rfl rfl ?_
  exact x_calli (args := [.inr (.inr 1)]) rfl rfl rfl k
theorem uX9_freeTriangles_4 {d : Nat} {Q : yM → Prop} {M : yM} {s0 : Int} (k : XCv d 181 [.inr (.inr 3), .inl 0] M (fun M' => XW kX9_freeTriangles (d + 1) none (wQv Q) 16 [some (.inr (.inr 1)), some (.inl (yand s0 (-2))), none, none] [] M')) : XW kX9_freeTriangles (d + 1) none (wQv Q) 4 [some (.inr (.inr 1)), none, none, none] [.inl s0] M := by
  refine x_bipush (-2) rfl (by decide) ?_
  refine x_iand rfl ?_
  refine x_istore_n rfl (Nat.le_of_ble_eq_true rfl) rfl ?_
  refine x_aload_n rfl rfl ?_
  refine x_getR rfl sh1 rfl ?_
  refine x_iconst 0 rfl (by decide) ?_
  exact x_callv (args := [.inr (.inr 3), .inl 0]) rfl rfl rfl k
theorem uX9_freeTriangles_16 {d : Nat} {Q : yM → Prop} {M : yM} {x1 : Int} (k : XW kX9_freeTriangles d none (wQv Q) 18 [some (.inr (.inr 1)), some (.inl x1), some (.inl 0), none] [] M) : XW kX9_freeTriangles d none (wQv Q) 16 [some (.inr (.inr 1)), some (.inl x1), none, none] [] M := by
  refine x_iconst 0 rfl (by decide) ?_
  refine x_istore_n rfl (Nat.le_of_ble_eq_true rfl) rfl ?_
  exact k
theorem uX9_freeTriangles_18 {d : Nat} {Q : yM → Prop} {M : yM} {x1 : Int} {x2 : Int} {wx3 : Option yV} (h1 : -2147483648 ≤ x2 ∧ x2 < 2147483648) (kt : x2 ≥ (ld M 1 0) → XW kX9_freeTriangles d none (wQv Q) 101 [some (.inr (.inr 1)), some (.inl x1), some (.inl x2), wx3] [] M) (kf : x2 < (ld M 1 0) → XW kX9_freeTriangles d none (wQv Q) 26 [some (.inr (.inr 1)), some (.inl x1), some (.inl x2), wx3] [] M) : XW kX9_freeTriangles d none (wQv Q) 18 [some (.inr (.inr 1)), some (.inl x1), some (.inl x2), wx3] [] M := by
  refine x_iload_n rfl rfl ?_
  refine x_aload_n rfl rfl ?_
  refine x_getI rfl sh1 rfl ?_
  exact x_icmpge rfl h1 (rng_ld _ _ _) kt kf
theorem uX9_freeTriangles_26 {d : Nat} {Q : yM → Prop} {M : yM} {x1 : Int} {x2 : Int} {wx3 : Option yV} (h1 : 0 ≤ x2 ∧ x2 < 64) (k : ∀ M', M' = (put M 3 x2 (yshl 1 x2)) → XW kX9_freeTriangles d none (wQv Q) 35 [some (.inr (.inr 1)), some (.inl x1), some (.inl x2), wx3] [] M') : XW kX9_freeTriangles d none (wQv Q) 26 [some (.inr (.inr 1)), some (.inl x1), some (.inl x2), wx3] [] M := by
  refine x_aload_n rfl rfl ?_
  refine x_getR rfl sh1 rfl ?_
  refine x_iload_n rfl rfl ?_
  refine x_iconst 1 rfl (by decide) ?_
  refine x_iload_n rfl rfl ?_
  refine x_ishl rfl ?_
  refine x_iastore rfl ⟨sh3, Nat.le_of_ble_eq_true rfl⟩ h1  ?_
  exact k _ rfl
theorem uX9_freeTriangles_35 {d : Nat} {Q : yM → Prop} {M : yM} {x1 : Int} {x2 : Int} {wx3 : Option yV} (h1 : 0 ≤ (8 * x2) ∧ (8 * x2) < 64) (k : ∀ M', M' = (put M 3 (8 * x2) (yshl 1 x2)) → XW kX9_freeTriangles d none (wQv Q) 47 [some (.inr (.inr 1)), some (.inl x1), some (.inl x2), wx3] [] M') : XW kX9_freeTriangles d none (wQv Q) 35 [some (.inr (.inr 1)), some (.inl x1), some (.inl x2), wx3] [] M := by
  refine x_aload_n rfl rfl ?_
  refine x_getR rfl sh1 rfl ?_
  refine x_bipush 8 rfl (by decide) ?_
  refine x_iload_n rfl rfl ?_
  refine x_imul rfl ?_
  refine x_iconst 1 rfl (by decide) ?_
  refine x_iload_n rfl rfl ?_
  refine x_ishl rfl ?_
  refine x_iastore rfl ⟨sh3, Nat.le_of_ble_eq_true rfl⟩ h1  ?_
  exact k _ rfl
theorem uX9_freeTriangles_47 {d : Nat} {Q : yM → Prop} {M : yM} {x1 : Int} {x2 : Int} {wx3 : Option yV} (k : XW kX9_freeTriangles d none (wQv Q) 49 [some (.inr (.inr 1)), some (.inl x1), some (.inl x2), some (.inl 1)] [] M) : XW kX9_freeTriangles d none (wQv Q) 47 [some (.inr (.inr 1)), some (.inl x1), some (.inl x2), wx3] [] M := by
  refine x_iconst 1 rfl (by decide) ?_
  refine x_istore_n rfl (Nat.le_of_ble_eq_true rfl) rfl ?_
  exact k
theorem uX9_freeTriangles_49 {d : Nat} {Q : yM → Prop} {M : yM} {x1 : Int} {x2 : Int} {x3 : Int} (h1 : -2147483648 ≤ x3 ∧ x3 < 2147483648) (kt : x3 ≥ (ld M 1 0) → XW kX9_freeTriangles d none (wQv Q) 95 [some (.inr (.inr 1)), some (.inl x1), some (.inl x2), some (.inl x3)] [] M) (kf : x3 < (ld M 1 0) → XW kX9_freeTriangles d none (wQv Q) 57 [some (.inr (.inr 1)), some (.inl x1), some (.inl x2), some (.inl x3)] [] M) : XW kX9_freeTriangles d none (wQv Q) 49 [some (.inr (.inr 1)), some (.inl x1), some (.inl x2), some (.inl x3)] [] M := by
  refine x_iload_n rfl rfl ?_
  refine x_aload_n rfl rfl ?_
  refine x_getI rfl sh1 rfl ?_
  exact x_icmpge rfl h1 (rng_ld _ _ _) kt kf
theorem uX9_freeTriangles_57 {d : Nat} {Q : yM → Prop} {M : yM} {x1 : Int} {x2 : Int} {x3 : Int} (h1 : -2147483648 ≤ x2 ∧ x2 < 2147483648) (kt : x2 ≤ 0 → XW kX9_freeTriangles d none (wQv Q) 95 [some (.inr (.inr 1)), some (.inl x1), some (.inl x2), some (.inl x3)] [] M) (kf : x2 > 0 → XW kX9_freeTriangles d none (wQv Q) 61 [some (.inr (.inr 1)), some (.inl x1), some (.inl x2), some (.inl x3)] [] M) : XW kX9_freeTriangles d none (wQv Q) 57 [some (.inr (.inr 1)), some (.inl x1), some (.inl x2), some (.inl x3)] [] M := by
  refine x_iload_n rfl rfl ?_
  exact x_ifle rfl h1 kt kf
theorem uX9_freeTriangles_61 {d : Nat} {Q : yM → Prop} {M : yM} {x1 : Int} {x2 : Int} {x3 : Int} (h1 : 0 ≤ x2 ∧ x2 < 8) (h2 : -2147483648 ≤ x3 ∧ x3 < 2147483648) (kt : (ld M 2 x2) ≠ x3 → XW kX9_freeTriangles d none (wQv Q) 87 [some (.inr (.inr 1)), some (.inl x1), some (.inl x2), some (.inl x3)] [.inl ((8 * x2) + x3), .inr (.inr 3)] M) (kf : (ld M 2 x2) = x3 → XW kX9_freeTriangles d none (wQv Q) 81 [some (.inr (.inr 1)), some (.inl x1), some (.inl x2), some (.inl x3)] [.inl ((8 * x2) + x3), .inr (.inr 3)] M) : XW kX9_freeTriangles d none (wQv Q) 61 [some (.inr (.inr 1)), some (.inl x1), some (.inl x2), some (.inl x3)] [] M := by
  refine x_aload_n rfl rfl ?_
  refine x_getR rfl sh1 rfl ?_
  refine x_bipush 8 rfl (by decide) ?_
  refine x_iload_n rfl rfl ?_
  refine x_imul rfl ?_
  refine x_iload_n rfl rfl ?_
  refine x_iadd rfl ?_
  refine x_aload_n rfl rfl ?_
  refine x_getR rfl sh1 rfl ?_
  refine x_iload_n rfl rfl ?_
  refine x_iaload rfl ⟨sh2, Nat.le_of_ble_eq_true rfl⟩ h1 ?_
  refine x_iload_n rfl rfl ?_
  exact x_icmpne rfl (rng_ld _ _ _) h2 kt kf
theorem uX9_freeTriangles_81 {d : Nat} {Q : yM → Prop} {M : yM} {x1 : Int} {x2 : Int} {x3 : Int} {s0 : Int} (k : XW kX9_freeTriangles d none (wQv Q) 88 [some (.inr (.inr 1)), some (.inl x1), some (.inl x2), some (.inl x3)] [.inl (yor x1 1), .inl s0, .inr (.inr 3)] M) : XW kX9_freeTriangles d none (wQv Q) 81 [some (.inr (.inr 1)), some (.inl x1), some (.inl x2), some (.inl x3)] [.inl s0, .inr (.inr 3)] M := by
  refine x_iload_n rfl rfl ?_
  refine x_iconst 1 rfl (by decide) ?_
  refine x_ior rfl ?_
  exact x_goto rfl k
theorem uX9_freeTriangles_87 {d : Nat} {Q : yM → Prop} {M : yM} {x1 : Int} {x2 : Int} {x3 : Int} {s0 : Int} (k : XW kX9_freeTriangles d none (wQv Q) 88 [some (.inr (.inr 1)), some (.inl x1), some (.inl x2), some (.inl x3)] [.inl x1, .inl s0, .inr (.inr 3)] M) : XW kX9_freeTriangles d none (wQv Q) 87 [some (.inr (.inr 1)), some (.inl x1), some (.inl x2), some (.inl x3)] [.inl s0, .inr (.inr 3)] M := by
  refine x_iload_n rfl rfl ?_
  exact k
theorem uX9_freeTriangles_88 {d : Nat} {Q : yM → Prop} {M : yM} {x1 : Int} {x2 : Int} {x3 : Int} {s0 : Int} {s1 : Int} (h1 : 0 ≤ s1 ∧ s1 < 64) (k : ∀ M', M' = (put M 3 s1 s0) → XW kX9_freeTriangles d none (wQv Q) 89 [some (.inr (.inr 1)), some (.inl x1), some (.inl x2), some (.inl x3)] [] M') : XW kX9_freeTriangles d none (wQv Q) 88 [some (.inr (.inr 1)), some (.inl x1), some (.inl x2), some (.inl x3)] [.inl s0, .inl s1, .inr (.inr 3)] M := by
  refine x_iastore rfl ⟨sh3, Nat.le_of_ble_eq_true rfl⟩ h1  ?_
  exact k _ rfl
theorem uX9_freeTriangles_89 {d : Nat} {Q : yM → Prop} {M : yM} {x1 : Int} {x2 : Int} {x3 : Int} (k : XW kX9_freeTriangles d none (wQv Q) 49 [some (.inr (.inr 1)), some (.inl x1), some (.inl x2), some (.inl (x3 + 1))] [] M) : XW kX9_freeTriangles d none (wQv Q) 89 [some (.inr (.inr 1)), some (.inl x1), some (.inl x2), some (.inl x3)] [] M := by
  refine x_iinc 1 rfl (by decide) rfl rfl ?_
  exact x_goto rfl k
theorem uX9_freeTriangles_95 {d : Nat} {Q : yM → Prop} {M : yM} {x1 : Int} {x2 : Int} {x3 : Int} (k : XW kX9_freeTriangles d none (wQv Q) 18 [some (.inr (.inr 1)), some (.inl x1), some (.inl (x2 + 1)), some (.inl x3)] [] M) : XW kX9_freeTriangles d none (wQv Q) 95 [some (.inr (.inr 1)), some (.inl x1), some (.inl x2), some (.inl x3)] [] M := by
  refine x_iinc 1 rfl (by decide) rfl rfl ?_
  exact x_goto rfl k
theorem uX9_freeTriangles_101 {d : Nat} {Q : yM → Prop} {M : yM} {x1 : Int} {x2 : Int} {wx3 : Option yV} (k : XCv d 68 [.inr (.inr 1)] M (fun M' => XW kX9_freeTriangles (d + 1) none (wQv Q) 105 [some (.inr (.inr 1)), some (.inl x1), some (.inl x2), wx3] [] M')) : XW kX9_freeTriangles (d + 1) none (wQv Q) 101 [some (.inr (.inr 1)), some (.inl x1), some (.inl x2), wx3] [] M := by
  refine x_aload_n rfl rfl ?_
  exact x_callv (args := [.inr (.inr 1)]) rfl rfl rfl k
theorem uX9_freeTriangles_105 {d : Nat} {Q : yM → Prop} {M : yM} {x1 : Int} {x2 : Int} {wx3 : Option yV} (k : Q M) : XW kX9_freeTriangles d none (wQv Q) 105 [some (.inr (.inr 1)), some (.inl x1), some (.inl x2), wx3] [] M := by
  exact x_return rfl k
theorem eX9_mayBe {d : Nat} {Q : Int → yM → Prop} {M : yM} {x1 : Int} {x2 : Int} {x3 : Int}  (h : XW kX9_mayBe d (some .boolean) (wQi Q) 0 [some (.inr (.inr 1)), some (.inl x1), some (.inl x2), some (.inl x3)] [] M) : XCi d 65 [.inr (.inr 1), .inl x1, .inl x2, .inl x3] M Q :=
  XC.ofW (Mm := (yX9_mayBe, cX9_mayBe, 4, (some .boolean), 10, kX9_mayBe)) rfl (rcv_ok sh1) rfl rfl h
theorem uX9_mayBe_0 {d : Nat} {Q : Int → yM → Prop} {M : yM} {x1 : Int} {x2 : Int} {x3 : Int} (h1 : 0 ≤ ((8 * x1) + x2) ∧ ((8 * x1) + x2) < 64) (kt : (yand (yshr (ld M 3 ((8 * x1) + x2)) x3) 1) ≠ 1 → XW kX9_mayBe d (some .boolean) (wQi Q) 23 [some (.inr (.inr 1)), some (.inl x1), some (.inl x2), some (.inl x3)] [] M) (kf : (yand (yshr (ld M 3 ((8 * x1) + x2)) x3) 1) = 1 → XW kX9_mayBe d (some .boolean) (wQi Q) 19 [some (.inr (.inr 1)), some (.inl x1), some (.inl x2), some (.inl x3)] [] M) : XW kX9_mayBe d (some .boolean) (wQi Q) 0 [some (.inr (.inr 1)), some (.inl x1), some (.inl x2), some (.inl x3)] [] M := by
  refine x_aload_n rfl rfl ?_
  refine x_getR rfl sh1 rfl ?_
  refine x_bipush 8 rfl (by decide) ?_
  refine x_iload_n rfl rfl ?_
  refine x_imul rfl ?_
  refine x_iload_n rfl rfl ?_
  refine x_iadd rfl ?_
  refine x_iaload rfl ⟨sh3, Nat.le_of_ble_eq_true rfl⟩ h1 ?_
  refine x_iload_n rfl rfl ?_
  refine x_ishr rfl ?_
  refine x_iconst 1 rfl (by decide) ?_
  refine x_iand rfl ?_
  refine x_iconst 1 rfl (by decide) ?_
  exact x_icmpne rfl (rng_yand _ _) (by decide) kt kf
theorem uX9_mayBe_19 {d : Nat} {Q : Int → yM → Prop} {M : yM} {x1 : Int} {x2 : Int} {x3 : Int} (k : XW kX9_mayBe d (some .boolean) (wQi Q) 24 [some (.inr (.inr 1)), some (.inl x1), some (.inl x2), some (.inl x3)] [.inl 1] M) : XW kX9_mayBe d (some .boolean) (wQi Q) 19 [some (.inr (.inr 1)), some (.inl x1), some (.inl x2), some (.inl x3)] [] M := by
  refine x_iconst 1 rfl (by decide) ?_
  exact x_goto rfl k
theorem uX9_mayBe_23 {d : Nat} {Q : Int → yM → Prop} {M : yM} {x1 : Int} {x2 : Int} {x3 : Int} (k : XW kX9_mayBe d (some .boolean) (wQi Q) 24 [some (.inr (.inr 1)), some (.inl x1), some (.inl x2), some (.inl x3)] [.inl 0] M) : XW kX9_mayBe d (some .boolean) (wQi Q) 23 [some (.inr (.inr 1)), some (.inl x1), some (.inl x2), some (.inl x3)] [] M := by
  refine x_iconst 0 rfl (by decide) ?_
  exact k
theorem uX9_mayBe_24 {d : Nat} {Q : Int → yM → Prop} {M : yM} {x1 : Int} {x2 : Int} {x3 : Int} {s0 : Int} (h1 : s0 = 0 ∨ s0 = 1) (k : Q s0 M) : XW kX9_mayBe d (some .boolean) (wQi Q) 24 [some (.inr (.inr 1)), some (.inl x1), some (.inl x2), some (.inl x3)] [.inl s0] M := by
  exact x_zreturn rfl h1 k
theorem eX9_setTriangle {d : Nat} {Q : yM → Prop} {M : yM} {x1 : Int} {x2 : Int} {x3 : Int} {x4 : Int}  (h : XW kX9_setTriangle d none (wQv Q) 0 [some (.inr (.inr 1)), some (.inl x1), some (.inl x2), some (.inl x3), some (.inl x4), none, none, none] [] M) : XCv d 66 [.inr (.inr 1), .inl x1, .inl x2, .inl x3, .inl x4] M Q :=
  XC.ofW (Mm := (yX9_setTriangle, cX9_setTriangle, 8, none, 10, kX9_setTriangle)) rfl (rcv_ok sh1) rfl rfl h
theorem uX9_setTriangle_0 {d : Nat} {Q : yM → Prop} {M : yM} {x1 : Int} {x2 : Int} {x3 : Int} {x4 : Int} (h1 : 0 ≤ x1 ∧ x1 < 8) (h2 : 0 ≤ x2 ∧ x2 < 8) (h3 : 0 ≤ x3 ∧ x3 < 8) (k : XCv d 67 [.inr (.inr 1), .inl x1, .inl x2, .inl x3, .inl x4] M (fun M' => XW kX9_setTriangle (d + 1) none (wQv Q) 33 [some (.inr (.inr 1)), some (.inl x1), some (.inl x2), some (.inl x3), some (.inl x4), some (.inl (ld M 2 x1)), some (.inl (ld M 2 x2)), some (.inl (ld M 2 x3))] [] M')) : XW kX9_setTriangle (d + 1) none (wQv Q) 0 [some (.inr (.inr 1)), some (.inl x1), some (.inl x2), some (.inl x3), some (.inl x4), none, none, none] [] M := by
  refine x_aload_n rfl rfl ?_
  refine x_getR rfl sh1 rfl ?_
  refine x_iload_n rfl rfl ?_
  refine x_iaload rfl ⟨sh2, Nat.le_of_ble_eq_true rfl⟩ h1 ?_
  refine x_istore rfl (Nat.le_of_ble_eq_true rfl) rfl ?_
  refine x_aload_n rfl rfl ?_
  refine x_getR rfl sh1 rfl ?_
  refine x_iload_n rfl rfl ?_
  refine x_iaload rfl ⟨sh2, Nat.le_of_ble_eq_true rfl⟩ h2 ?_
  refine x_istore rfl (Nat.le_of_ble_eq_true rfl) rfl ?_
  refine x_aload_n rfl rfl ?_
  refine x_getR rfl sh1 rfl ?_
  refine x_iload_n rfl rfl ?_
  refine x_iaload rfl ⟨sh2, Nat.le_of_ble_eq_true rfl⟩ h3 ?_
  refine x_istore rfl (Nat.le_of_ble_eq_true rfl) rfl ?_
  refine x_aload_n rfl rfl ?_
  refine x_iload_n rfl rfl ?_
  refine x_iload_n rfl rfl ?_
  refine x_iload_n rfl rfl ?_
  refine x_iload rfl rfl ?_
  exact x_callv (args := [.inr (.inr 1), .inl x1, .inl x2, .inl x3, .inl x4]) rfl rfl rfl k
theorem uX9_setTriangle_33 {d : Nat} {Q : yM → Prop} {M : yM} {x1 : Int} {x2 : Int} {x3 : Int} {x4 : Int} {x5 : Int} {x6 : Int} {x7 : Int} (k : XCv d 67 [.inr (.inr 1), .inl x3, .inl x6, .inl x1, .inl x4] M (fun M' => XW kX9_setTriangle (d + 1) none (wQv Q) 43 [some (.inr (.inr 1)), some (.inl x1), some (.inl x2), some (.inl x3), some (.inl x4), some (.inl x5), some (.inl x6), some (.inl x7)] [] M')) : XW kX9_setTriangle (d + 1) none (wQv Q) 33 [some (.inr (.inr 1)), some (.inl x1), some (.inl x2), some (.inl x3), some (.inl x4), some (.inl x5), some (.inl x6), some (.inl x7)] [] M := by
  refine x_aload_n rfl rfl ?_
  refine x_iload_n rfl rfl ?_
  refine x_iload rfl rfl ?_
  refine x_iload_n rfl rfl ?_
  refine x_iload rfl rfl ?_
  exact x_callv (args := [.inr (.inr 1), .inl x3, .inl x6, .inl x1, .inl x4]) rfl rfl rfl k
theorem uX9_setTriangle_43 {d : Nat} {Q : yM → Prop} {M : yM} {x1 : Int} {x2 : Int} {x3 : Int} {x4 : Int} {x5 : Int} {x6 : Int} {x7 : Int} (k : XCv d 67 [.inr (.inr 1), .inl x5, .inl x3, .inl x2, .inl x4] M (fun M' => XW kX9_setTriangle (d + 1) none (wQv Q) 53 [some (.inr (.inr 1)), some (.inl x1), some (.inl x2), some (.inl x3), some (.inl x4), some (.inl x5), some (.inl x6), some (.inl x7)] [] M')) : XW kX9_setTriangle (d + 1) none (wQv Q) 43 [some (.inr (.inr 1)), some (.inl x1), some (.inl x2), some (.inl x3), some (.inl x4), some (.inl x5), some (.inl x6), some (.inl x7)] [] M := by
  refine x_aload_n rfl rfl ?_
  refine x_iload rfl rfl ?_
  refine x_iload_n rfl rfl ?_
  refine x_iload_n rfl rfl ?_
  refine x_iload rfl rfl ?_
  exact x_callv (args := [.inr (.inr 1), .inl x5, .inl x3, .inl x2, .inl x4]) rfl rfl rfl k
theorem uX9_setTriangle_53 {d : Nat} {Q : yM → Prop} {M : yM} {x1 : Int} {x2 : Int} {x3 : Int} {x4 : Int} {x5 : Int} {x6 : Int} {x7 : Int} (k : XCv d 67 [.inr (.inr 1), .inl x2, .inl x7, .inl x5, .inl x4] M (fun M' => XW kX9_setTriangle (d + 1) none (wQv Q) 64 [some (.inr (.inr 1)), some (.inl x1), some (.inl x2), some (.inl x3), some (.inl x4), some (.inl x5), some (.inl x6), some (.inl x7)] [] M')) : XW kX9_setTriangle (d + 1) none (wQv Q) 53 [some (.inr (.inr 1)), some (.inl x1), some (.inl x2), some (.inl x3), some (.inl x4), some (.inl x5), some (.inl x6), some (.inl x7)] [] M := by
  refine x_aload_n rfl rfl ?_
  refine x_iload_n rfl rfl ?_
  refine x_iload rfl rfl ?_
  refine x_iload rfl rfl ?_
  refine x_iload rfl rfl ?_
  exact x_callv (args := [.inr (.inr 1), .inl x2, .inl x7, .inl x5, .inl x4]) rfl rfl rfl k
theorem uX9_setTriangle_64 {d : Nat} {Q : yM → Prop} {M : yM} {x1 : Int} {x2 : Int} {x3 : Int} {x4 : Int} {x5 : Int} {x6 : Int} {x7 : Int} (k : XCv d 67 [.inr (.inr 1), .inl x7, .inl x1, .inl x6, .inl x4] M (fun M' => XW kX9_setTriangle (d + 1) none (wQv Q) 75 [some (.inr (.inr 1)), some (.inl x1), some (.inl x2), some (.inl x3), some (.inl x4), some (.inl x5), some (.inl x6), some (.inl x7)] [] M')) : XW kX9_setTriangle (d + 1) none (wQv Q) 64 [some (.inr (.inr 1)), some (.inl x1), some (.inl x2), some (.inl x3), some (.inl x4), some (.inl x5), some (.inl x6), some (.inl x7)] [] M := by
  refine x_aload_n rfl rfl ?_
  refine x_iload rfl rfl ?_
  refine x_iload_n rfl rfl ?_
  refine x_iload rfl rfl ?_
  refine x_iload rfl rfl ?_
  exact x_callv (args := [.inr (.inr 1), .inl x7, .inl x1, .inl x6, .inl x4]) rfl rfl rfl k
theorem uX9_setTriangle_75 {d : Nat} {Q : yM → Prop} {M : yM} {x1 : Int} {x2 : Int} {x3 : Int} {x4 : Int} {x5 : Int} {x6 : Int} {x7 : Int} (k : XCv d 67 [.inr (.inr 1), .inl x6, .inl x5, .inl x7, .inl x4] M (fun M' => XW kX9_setTriangle (d + 1) none (wQv Q) 87 [some (.inr (.inr 1)), some (.inl x1), some (.inl x2), some (.inl x3), some (.inl x4), some (.inl x5), some (.inl x6), some (.inl x7)] [] M')) : XW kX9_setTriangle (d + 1) none (wQv Q) 75 [some (.inr (.inr 1)), some (.inl x1), some (.inl x2), some (.inl x3), some (.inl x4), some (.inl x5), some (.inl x6), some (.inl x7)] [] M := by
  refine x_aload_n rfl rfl ?_
  refine x_iload rfl rfl ?_
  refine x_iload rfl rfl ?_
  refine x_iload rfl rfl ?_
  refine x_iload rfl rfl ?_
  exact x_callv (args := [.inr (.inr 1), .inl x6, .inl x5, .inl x7, .inl x4]) rfl rfl rfl k
theorem uX9_setTriangle_87 {d : Nat} {Q : yM → Prop} {M : yM} {x1 : Int} {x2 : Int} {x3 : Int} {x4 : Int} {x5 : Int} {x6 : Int} {x7 : Int} (k : XCv d 68 [.inr (.inr 1)] M (fun M' => XW kX9_setTriangle (d + 1) none (wQv Q) 91 [some (.inr (.inr 1)), some (.inl x1), some (.inl x2), some (.inl x3), some (.inl x4), some (.inl x5), some (.inl x6), some (.inl x7)] [] M')) : XW kX9_setTriangle (d + 1) none (wQv Q) 87 [some (.inr (.inr 1)), some (.inl x1), some (.inl x2), some (.inl x3), some (.inl x4), some (.inl x5), some (.inl x6), some (.inl x7)] [] M := by
  refine x_aload_n rfl rfl ?_
  exact x_callv (args := [.inr (.inr 1)]) rfl rfl rfl k
theorem uX9_setTriangle_91 {d : Nat} {Q : yM → Prop} {M : yM} {x1 : Int} {x2 : Int} {x3 : Int} {x4 : Int} {x5 : Int} {x6 : Int} {x7 : Int} (k : Q M) : XW kX9_setTriangle d none (wQv Q) 91 [some (.inr (.inr 1)), some (.inl x1), some (.inl x2), some (.inl x3), some (.inl x4), some (.inl x5), some (.inl x6), some (.inl x7)] [] M := by
  exact x_return rfl k
theorem eX9_setOne {d : Nat} {Q : yM → Prop} {M : yM} {x1 : Int} {x2 : Int} {x3 : Int} {x4 : Int}  (h : XW kX9_setOne d none (wQv Q) 0 [some (.inr (.inr 1)), some (.inl x1), some (.inl x2), some (.inl x3), some (.inl x4)] [] M) : XCv d 67 [.inr (.inr 1), .inl x1, .inl x2, .inl x3, .inl x4] M Q :=
  XC.ofW (Mm := (yX9_setOne, cX9_setOne, 5, none, 10, kX9_setOne)) rfl (rcv_ok sh1) rfl rfl h
theorem uX9_setOne_0 {d : Nat} {Q : yM → Prop} {M : yM} {x1 : Int} {x2 : Int} {x3 : Int} {x4 : Int} (h1 : -2147483648 ≤ x4 ∧ x4 < 2147483648) (kt : x4 = 0 → XW kX9_setOne d none (wQv Q) 25 [some (.inr (.inr 1)), some (.inl x1), some (.inl x2), some (.inl x3), some (.inl x4)] [] M) (kf : x4 ≠ 0 → XW kX9_setOne d none (wQv Q) 5 [some (.inr (.inr 1)), some (.inl x1), some (.inl x2), some (.inl x3), some (.inl x4)] [] M) : XW kX9_setOne d none (wQv Q) 0 [some (.inr (.inr 1)), some (.inl x1), some (.inl x2), some (.inl x3), some (.inl x4)] [] M := by
  refine x_iload rfl rfl ?_
  exact x_ifeq rfl h1 kt kf
theorem uX9_setOne_5 {d : Nat} {Q : yM → Prop} {M : yM} {x1 : Int} {x2 : Int} {x3 : Int} {x4 : Int} (h1 : 0 ≤ ((8 * x1) + x2) ∧ ((8 * x1) + x2) < 64) (h2 : 0 ≤ ((8 * x1) + x2) ∧ ((8 * x1) + x2) < 64) (k : ∀ M', M' = (put M 3 ((8 * x1) + x2) (yor (ld M 3 ((8 * x1) + x2)) (yshl 1 x3))) → XW kX9_setOne d none (wQv Q) 22 [some (.inr (.inr 1)), some (.inl x1), some (.inl x2), some (.inl x3), some (.inl x4)] [] M') : XW kX9_setOne d none (wQv Q) 5 [some (.inr (.inr 1)), some (.inl x1), some (.inl x2), some (.inl x3), some (.inl x4)] [] M := by
  refine x_aload_n rfl rfl ?_
  refine x_getR rfl sh1 rfl ?_
  refine x_bipush 8 rfl (by decide) ?_
  refine x_iload_n rfl rfl ?_
  refine x_imul rfl ?_
  refine x_iload_n rfl rfl ?_
  refine x_iadd rfl ?_
  refine x_dup2 rfl ?_
  refine x_iaload rfl ⟨sh3, Nat.le_of_ble_eq_true rfl⟩ h1 ?_
  refine x_iconst 1 rfl (by decide) ?_
  refine x_iload_n rfl rfl ?_
  refine x_ishl rfl ?_
  refine x_ior rfl ?_
  refine x_iastore rfl ⟨sh3, Nat.le_of_ble_eq_true rfl⟩ h2  ?_
  exact k _ rfl
theorem uX9_setOne_22 {d : Nat} {Q : yM → Prop} {M : yM} {x1 : Int} {x2 : Int} {x3 : Int} {x4 : Int} (k : XW kX9_setOne d none (wQv Q) 44 [some (.inr (.inr 1)), some (.inl x1), some (.inl x2), some (.inl x3), some (.inl x4)] [] M) : XW kX9_setOne d none (wQv Q) 22 [some (.inr (.inr 1)), some (.inl x1), some (.inl x2), some (.inl x3), some (.inl x4)] [] M := by
  exact x_goto rfl k
theorem uX9_setOne_25 {d : Nat} {Q : yM → Prop} {M : yM} {x1 : Int} {x2 : Int} {x3 : Int} {x4 : Int} (h1 : 0 ≤ ((8 * x1) + x2) ∧ ((8 * x1) + x2) < 64) (h2 : 0 ≤ ((8 * x1) + x2) ∧ ((8 * x1) + x2) < 64) (k : ∀ M', M' = (put M 3 ((8 * x1) + x2) (yand (ld M 3 ((8 * x1) + x2)) (yxor (yshl 1 x3) (-1)))) → XW kX9_setOne d none (wQv Q) 44 [some (.inr (.inr 1)), some (.inl x1), some (.inl x2), some (.inl x3), some (.inl x4)] [] M') : XW kX9_setOne d none (wQv Q) 25 [some (.inr (.inr 1)), some (.inl x1), some (.inl x2), some (.inl x3), some (.inl x4)] [] M := by
  refine x_aload_n rfl rfl ?_
  refine x_getR rfl sh1 rfl ?_
  refine x_bipush 8 rfl (by decide) ?_
  refine x_iload_n rfl rfl ?_
  refine x_imul rfl ?_
  refine x_iload_n rfl rfl ?_
  refine x_iadd rfl ?_
  refine x_dup2 rfl ?_
  refine x_iaload rfl ⟨sh3, Nat.le_of_ble_eq_true rfl⟩ h1 ?_
  refine x_iconst 1 rfl (by decide) ?_
  refine x_iload_n rfl rfl ?_
  refine x_ishl rfl ?_
  refine x_iconst (-1) rfl (by decide) ?_
  refine x_ixor rfl ?_
  refine x_iand rfl ?_
  refine x_iastore rfl ⟨sh3, Nat.le_of_ble_eq_true rfl⟩ h2  ?_
  exact k _ rfl
theorem uX9_setOne_44 {d : Nat} {Q : yM → Prop} {M : yM} {x1 : Int} {x2 : Int} {x3 : Int} {x4 : Int} (k : Q M) : XW kX9_setOne d none (wQv Q) 44 [some (.inr (.inr 1)), some (.inl x1), some (.inl x2), some (.inl x3), some (.inl x4)] [] M := by
  exact x_return rfl k
theorem eX9_prepare {d : Nat} {Q : yM → Prop} {M : yM} {x0 : Nat} (hT : tabSh x0) (h : XW kX9_prepare d none (wQv Q) 0 [some (.inr (.inr x0)), none, none, none] [] M) : XCv d 68 [.inr (.inr x0)] M Q :=
  XC.ofW (Mm := (yX9_prepare, cX9_prepare, 4, none, 10, kX9_prepare)) rfl (rcv_ok hT.1) rfl rfl h
theorem uX9_prepare_0 {d : Nat} {Q : yM → Prop} {M : yM} {x0 : Nat} (k : XW kX9_prepare d none (wQv Q) 2 [some (.inr (.inr x0)), some (.inl 1), none, none] [] M) : XW kX9_prepare d none (wQv Q) 0 [some (.inr (.inr x0)), none, none, none] [] M := by
  refine x_iconst 1 rfl (by decide) ?_
  refine x_istore_n rfl (Nat.le_of_ble_eq_true rfl) rfl ?_
  exact k
theorem uX9_prepare_2 {d : Nat} {Q : yM → Prop} {M : yM} {x0 : Nat} {x1 : Int} (k : XCi d 60 [.inr (.inr x0)] M (fun v M' => XW kX9_prepare (d + 1) none (wQv Q) 7 [some (.inr (.inr x0)), some (.inl x1), none, none] [.inl v, .inl x1] M')) : XW kX9_prepare (d + 1) none (wQv Q) 2 [some (.inr (.inr x0)), some (.inl x1), none, none] [] M := by
  refine x_iload_n rfl rfl ?_
  refine x_aload_n rfl rfl ?_
  exact x_calli (args := [.inr (.inr x0)]) rfl rfl rfl k
theorem uX9_prepare_7 {d : Nat} {Q : yM → Prop} {M : yM} {x0 : Nat} {x1 : Int} {s0 : Int} {s1 : Int} (h1 : -2147483648 ≤ s1 ∧ s1 < 2147483648) (h2 : -2147483648 ≤ s0 ∧ s0 < 2147483648) (kt : s1 > s0 → XW kX9_prepare d none (wQv Q) 44 [some (.inr (.inr x0)), some (.inl x1), none, none] [] M) (kf : s1 ≤ s0 → XW kX9_prepare d none (wQv Q) 10 [some (.inr (.inr x0)), some (.inl x1), none, none] [] M) : XW kX9_prepare d none (wQv Q) 7 [some (.inr (.inr x0)), some (.inl x1), none, none] [.inl s0, .inl s1] M := by
  exact x_icmpgt rfl h1 h2 kt kf
theorem uX9_prepare_10 {d : Nat} {Q : yM → Prop} {M : yM} {x0 : Nat} {x1 : Int} (h1 : tabSh x0) (h2 : 0 ≤ (yand x1 (x1 - 1)) ∧ (yand x1 (x1 - 1)) < 256) (k : XCi d 116 [.inl x1] M (fun v M' => XW kX9_prepare (d + 1) none (wQv Q) 34 [some (.inr (.inr x0)), some (.inl x1), none, none] [.inl v, .inr (.inr (x0 + 1)), .inl 1, .inl (ld M (x0 + 3) (yand x1 (x1 - 1))), .inl x1, .inr (.inr (x0 + 3))] M')) : XW kX9_prepare (d + 1) none (wQv Q) 10 [some (.inr (.inr x0)), some (.inl x1), none, none] [] M := by
  refine x_aload_n rfl rfl ?_
  refine x_getR rfl h1.1 rfl ?_
  refine x_iload_n rfl rfl ?_
  refine x_aload_n rfl rfl ?_
  refine x_getR rfl h1.1 rfl ?_
  refine x_iload_n rfl rfl ?_
  refine x_iload_n rfl rfl ?_
  refine x_iconst 1 rfl (by decide) ?_
  refine x_isub rfl ?_
  refine x_iand rfl ?_
  refine x_iaload rfl h1.2.2.2.1 h2 ?_
  refine x_iconst 1 rfl (by decide) ?_
  refine x_aload_n rfl rfl ?_
  refine x_getR rfl h1.1 rfl ?_
  refine x_iload_n rfl rfl ?_
  exact x_calli (args := [.inl x1]) rfl rfl rfl k
theorem uX9_prepare_34 {d : Nat} {Q : yM → Prop} {M : yM} {x0 : Nat} {x1 : Int} {s0 : Int} {s1 : Nat} {s2 : Int} {s3 : Int} {s4 : Int} {s5 : Nat} (h1 : arrSh s1 8) (h2 : 0 ≤ s0 ∧ s0 < 8) (h3 : arrSh s5 256) (h4 : 0 ≤ s4 ∧ s4 < 256) (k : ∀ M', M' = (put M s5 s4 (yor s3 (yshl s2 (ld M s1 s0)))) → XW kX9_prepare d none (wQv Q) 38 [some (.inr (.inr x0)), some (.inl x1), none, none] [] M') : XW kX9_prepare d none (wQv Q) 34 [some (.inr (.inr x0)), some (.inl x1), none, none] [.inl s0, .inr (.inr s1), .inl s2, .inl s3, .inl s4, .inr (.inr s5)] M := by
  refine x_iaload rfl h1 h2 ?_
  refine x_ishl rfl ?_
  refine x_ior rfl ?_
  refine x_iastore rfl h3 h4  ?_
  exact k _ rfl
theorem uX9_prepare_38 {d : Nat} {Q : yM → Prop} {M : yM} {x0 : Nat} {x1 : Int} (k : XW kX9_prepare d none (wQv Q) 2 [some (.inr (.inr x0)), some (.inl (x1 + 1)), none, none] [] M) : XW kX9_prepare d none (wQv Q) 38 [some (.inr (.inr x0)), some (.inl x1), none, none] [] M := by
  refine x_iinc 1 rfl (by decide) rfl rfl ?_
  exact x_goto rfl k
theorem uX9_prepare_44 {d : Nat} {Q : yM → Prop} {M : yM} {x0 : Nat} {x1 : Int} (h1 : tabSh x0) (kt : (ld M x0 0) ≤ 4 → XW kX9_prepare d none (wQv Q) 56 [some (.inr (.inr x0)), some (.inl x1), none, none] [] M) (kf : (ld M x0 0) > 4 → XW kX9_prepare d none (wQv Q) 52 [some (.inr (.inr x0)), some (.inl x1), none, none] [] M) : XW kX9_prepare d none (wQv Q) 44 [some (.inr (.inr x0)), some (.inl x1), none, none] [] M := by
  refine x_aload_n rfl rfl ?_
  refine x_getI rfl h1.1 rfl ?_
  refine x_iconst 4 rfl (by decide) ?_
  exact x_icmple rfl (rng_ld _ _ _) (by decide) kt kf
theorem uX9_prepare_52 {d : Nat} {Q : yM → Prop} {M : yM} {x0 : Nat} {x1 : Int} (k : XW kX9_prepare d none (wQv Q) 57 [some (.inr (.inr x0)), some (.inl x1), none, none] [.inl 2] M) : XW kX9_prepare d none (wQv Q) 52 [some (.inr (.inr x0)), some (.inl x1), none, none] [] M := by
  refine x_iconst 2 rfl (by decide) ?_
  exact x_goto rfl k
theorem uX9_prepare_56 {d : Nat} {Q : yM → Prop} {M : yM} {x0 : Nat} {x1 : Int} (k : XW kX9_prepare d none (wQv Q) 57 [some (.inr (.inr x0)), some (.inl x1), none, none] [.inl 1] M) : XW kX9_prepare d none (wQv Q) 56 [some (.inr (.inr x0)), some (.inl x1), none, none] [] M := by
  refine x_iconst 1 rfl (by decide) ?_
  exact k
theorem uX9_prepare_57 {d : Nat} {Q : yM → Prop} {M : yM} {x0 : Nat} {x1 : Int} {s0 : Int} (k : XW kX9_prepare d none (wQv Q) 60 [some (.inr (.inr x0)), some (.inl s0), some (.inl 0), none] [] M) : XW kX9_prepare d none (wQv Q) 57 [some (.inr (.inr x0)), some (.inl x1), none, none] [.inl s0] M := by
  refine x_istore_n rfl (Nat.le_of_ble_eq_true rfl) rfl ?_
  refine x_iconst 0 rfl (by decide) ?_
  refine x_istore_n rfl (Nat.le_of_ble_eq_true rfl) rfl ?_
  exact k
theorem uX9_prepare_60 {d : Nat} {Q : yM → Prop} {M : yM} {x0 : Nat} {x1 : Int} {x2 : Int} {wx3 : Option yV} (h1 : -2147483648 ≤ x2 ∧ x2 < 2147483648) (h2 : -2147483648 ≤ x1 ∧ x1 < 2147483648) (kt : x2 ≥ x1 → XW kX9_prepare d none (wQv Q) 90 [some (.inr (.inr x0)), some (.inl x1), some (.inl x2), wx3] [] M) (kf : x2 < x1 → XW kX9_prepare d none (wQv Q) 65 [some (.inr (.inr x0)), some (.inl x1), some (.inl x2), wx3] [] M) : XW kX9_prepare d none (wQv Q) 60 [some (.inr (.inr x0)), some (.inl x1), some (.inl x2), wx3] [] M := by
  refine x_iload_n rfl rfl ?_
  refine x_iload_n rfl rfl ?_
  exact x_icmpge rfl h1 h2 kt kf
theorem uX9_prepare_65 {d : Nat} {Q : yM → Prop} {M : yM} {x0 : Nat} {x1 : Int} {x2 : Int} {wx3 : Option yV} (k : XW kX9_prepare d none (wQv Q) 67 [some (.inr (.inr x0)), some (.inl x1), some (.inl x2), some (.inl 0)] [] M) : XW kX9_prepare d none (wQv Q) 65 [some (.inr (.inr x0)), some (.inl x1), some (.inl x2), wx3] [] M := by
  refine x_iconst 0 rfl (by decide) ?_
  refine x_istore_n rfl (Nat.le_of_ble_eq_true rfl) rfl ?_
  exact k
theorem uX9_prepare_67 {d : Nat} {Q : yM → Prop} {M : yM} {x0 : Nat} {x1 : Int} {x2 : Int} {x3 : Int} (h1 : -2147483648 ≤ x3 ∧ x3 < 2147483648) (h2 : -2147483648 ≤ x1 ∧ x1 < 2147483648) (kt : x3 ≥ x1 → XW kX9_prepare d none (wQv Q) 84 [some (.inr (.inr x0)), some (.inl x1), some (.inl x2), some (.inl x3)] [] M) (kf : x3 < x1 → XW kX9_prepare d none (wQv Q) 72 [some (.inr (.inr x0)), some (.inl x1), some (.inl x2), some (.inl x3)] [] M) : XW kX9_prepare d none (wQv Q) 67 [some (.inr (.inr x0)), some (.inl x1), some (.inl x2), some (.inl x3)] [] M := by
  refine x_iload_n rfl rfl ?_
  refine x_iload_n rfl rfl ?_
  exact x_icmpge rfl h1 h2 kt kf
theorem uX9_prepare_72 {d : Nat} {Q : yM → Prop} {M : yM} {x0 : Nat} {x1 : Int} {x2 : Int} {x3 : Int} (k : XCv d 69 [.inr (.inr x0), .inl x2, .inl x3] M (fun M' => XW kX9_prepare (d + 1) none (wQv Q) 78 [some (.inr (.inr x0)), some (.inl x1), some (.inl x2), some (.inl x3)] [] M')) : XW kX9_prepare (d + 1) none (wQv Q) 72 [some (.inr (.inr x0)), some (.inl x1), some (.inl x2), some (.inl x3)] [] M := by
  refine x_aload_n rfl rfl ?_
  refine x_iload_n rfl rfl ?_
  refine x_iload_n rfl rfl ?_
  exact x_callv (args := [.inr (.inr x0), .inl x2, .inl x3]) rfl rfl rfl k
theorem uX9_prepare_78 {d : Nat} {Q : yM → Prop} {M : yM} {x0 : Nat} {x1 : Int} {x2 : Int} {x3 : Int} (k : XW kX9_prepare d none (wQv Q) 67 [some (.inr (.inr x0)), some (.inl x1), some (.inl x2), some (.inl (x3 + 1))] [] M) : XW kX9_prepare d none (wQv Q) 78 [some (.inr (.inr x0)), some (.inl x1), some (.inl x2), some (.inl x3)] [] M := by
  refine x_iinc 1 rfl (by decide) rfl rfl ?_
  exact x_goto rfl k
theorem uX9_prepare_84 {d : Nat} {Q : yM → Prop} {M : yM} {x0 : Nat} {x1 : Int} {x2 : Int} {x3 : Int} (k : XW kX9_prepare d none (wQv Q) 60 [some (.inr (.inr x0)), some (.inl x1), some (.inl (x2 + 1)), some (.inl x3)] [] M) : XW kX9_prepare d none (wQv Q) 84 [some (.inr (.inr x0)), some (.inl x1), some (.inl x2), some (.inl x3)] [] M := by
  refine x_iinc 1 rfl (by decide) rfl rfl ?_
  exact x_goto rfl k
theorem uX9_prepare_90 {d : Nat} {Q : yM → Prop} {M : yM} {x0 : Nat} {x1 : Int} {x2 : Int} {wx3 : Option yV} (k : Q M) : XW kX9_prepare d none (wQv Q) 90 [some (.inr (.inr x0)), some (.inl x1), some (.inl x2), wx3] [] M := by
  exact x_return rfl k
theorem eX9_prepareHalves {d : Nat} {Q : yM → Prop} {M : yM} {x0 : Nat} {x1 : Int} {x2 : Int} (hT : tabSh x0) (h : XW kX9_prepareHalves d none (wQv Q) 0 [some (.inr (.inr x0)), some (.inl x1), some (.inl x2), none, none, none, none, none, none] [] M) : XCv d 69 [.inr (.inr x0), .inl x1, .inl x2] M Q :=
  XC.ofW (Mm := (yX9_prepareHalves, cX9_prepareHalves, 9, none, 10, kX9_prepareHalves)) rfl (rcv_ok hT.1) rfl rfl h
theorem uX9_prepareHalves_0 {d : Nat} {Q : yM → Prop} {M : yM} {x0 : Nat} {x1 : Int} {x2 : Int} (k : XW kX9_prepareHalves d none (wQv Q) 15 [some (.inr (.inr x0)), some (.inl x1), some (.inl x2), some (.inl ((512 * x1) + (256 * x2))), some (.inl 1), none, none, none, none] [] M) : XW kX9_prepareHalves d none (wQv Q) 0 [some (.inr (.inr x0)), some (.inl x1), some (.inl x2), none, none, none, none, none, none] [] M := by
  refine x_sipush 512 rfl (by decide) ?_
  refine x_iload_n rfl rfl ?_
  refine x_imul rfl ?_
  refine x_sipush 256 rfl (by decide) ?_
  refine x_iload_n rfl rfl ?_
  refine x_imul rfl ?_
  refine x_iadd rfl ?_
  refine x_istore_n rfl (Nat.le_of_ble_eq_true rfl) rfl ?_
  refine x_iconst 1 rfl (by decide) ?_
  refine x_istore rfl (Nat.le_of_ble_eq_true rfl) rfl ?_
  exact k
theorem uX9_prepareHalves_15 {d : Nat} {Q : yM → Prop} {M : yM} {x0 : Nat} {x1 : Int} {x2 : Int} {x3 : Int} {x4 : Int} {wx5 : Option yV} {wx6 : Option yV} {wx7 : Option yV} {wx8 : Option yV} (h1 : -2147483648 ≤ x4 ∧ x4 < 2147483648) (kt : x4 ≥ 16 → XW kX9_prepareHalves d none (wQv Q) 196 [some (.inr (.inr x0)), some (.inl x1), some (.inl x2), some (.inl x3), some (.inl x4), wx5, wx6, wx7, wx8] [] M) (kf : x4 < 16 → XW kX9_prepareHalves d none (wQv Q) 22 [some (.inr (.inr x0)), some (.inl x1), some (.inl x2), some (.inl x3), some (.inl x4), wx5, wx6, wx7, wx8] [] M) : XW kX9_prepareHalves d none (wQv Q) 15 [some (.inr (.inr x0)), some (.inl x1), some (.inl x2), some (.inl x3), some (.inl x4), wx5, wx6, wx7, wx8] [] M := by
  refine x_iload rfl rfl ?_
  refine x_bipush 16 rfl (by decide) ?_
  exact x_icmpge rfl h1 (by decide) kt kf
theorem uX9_prepareHalves_22 {d : Nat} {Q : yM → Prop} {M : yM} {x0 : Nat} {x1 : Int} {x2 : Int} {x3 : Int} {x4 : Int} {wx5 : Option yV} {wx6 : Option yV} {wx7 : Option yV} {wx8 : Option yV} (k : XW kX9_prepareHalves d none (wQv Q) 25 [some (.inr (.inr x0)), some (.inl x1), some (.inl x2), some (.inl x3), some (.inl x4), some (.inl 1), wx6, wx7, wx8] [] M) : XW kX9_prepareHalves d none (wQv Q) 22 [some (.inr (.inr x0)), some (.inl x1), some (.inl x2), some (.inl x3), some (.inl x4), wx5, wx6, wx7, wx8] [] M := by
  refine x_iconst 1 rfl (by decide) ?_
  refine x_istore rfl (Nat.le_of_ble_eq_true rfl) rfl ?_
  exact k
theorem uX9_prepareHalves_25 {d : Nat} {Q : yM → Prop} {M : yM} {x0 : Nat} {x1 : Int} {x2 : Int} {x3 : Int} {x4 : Int} {x5 : Int} {wx6 : Option yV} {wx7 : Option yV} {wx8 : Option yV} (h1 : -2147483648 ≤ x5 ∧ x5 < 2147483648) (kt : x5 ≥ 16 → XW kX9_prepareHalves d none (wQv Q) 190 [some (.inr (.inr x0)), some (.inl x1), some (.inl x2), some (.inl x3), some (.inl x4), some (.inl x5), wx6, wx7, wx8] [] M) (kf : x5 < 16 → XW kX9_prepareHalves d none (wQv Q) 32 [some (.inr (.inr x0)), some (.inl x1), some (.inl x2), some (.inl x3), some (.inl x4), some (.inl x5), wx6, wx7, wx8] [] M) : XW kX9_prepareHalves d none (wQv Q) 25 [some (.inr (.inr x0)), some (.inl x1), some (.inl x2), some (.inl x3), some (.inl x4), some (.inl x5), wx6, wx7, wx8] [] M := by
  refine x_iload rfl rfl ?_
  refine x_bipush 16 rfl (by decide) ?_
  exact x_icmpge rfl h1 (by decide) kt kf
theorem uX9_prepareHalves_32 {d : Nat} {Q : yM → Prop} {M : yM} {x0 : Nat} {x1 : Int} {x2 : Int} {x3 : Int} {x4 : Int} {x5 : Int} {wx6 : Option yV} {wx7 : Option yV} {wx8 : Option yV} (kt : (yand x4 (x4 - 1)) = 0 → XW kX9_prepareHalves d none (wQv Q) 94 [some (.inr (.inr x0)), some (.inl x1), some (.inl x2), some (.inl x3), some (.inl x4), some (.inl x5), some (.inl (yand x4 (x4 - 1))), some (.inl (yand x5 (x5 - 1))), wx8] [] M) (kf : (yand x4 (x4 - 1)) ≠ 0 → XW kX9_prepareHalves d none (wQv Q) 55 [some (.inr (.inr x0)), some (.inl x1), some (.inl x2), some (.inl x3), some (.inl x4), some (.inl x5), some (.inl (yand x4 (x4 - 1))), some (.inl (yand x5 (x5 - 1))), wx8] [] M) : XW kX9_prepareHalves d none (wQv Q) 32 [some (.inr (.inr x0)), some (.inl x1), some (.inl x2), some (.inl x3), some (.inl x4), some (.inl x5), wx6, wx7, wx8] [] M := by
  refine x_iload rfl rfl ?_
  refine x_iload rfl rfl ?_
  refine x_iconst 1 rfl (by decide) ?_
  refine x_isub rfl ?_
  refine x_iand rfl ?_
  refine x_istore rfl (Nat.le_of_ble_eq_true rfl) rfl ?_
  refine x_iload rfl rfl ?_
  refine x_iload rfl rfl ?_
  refine x_iconst 1 rfl (by decide) ?_
  refine x_isub rfl ?_
  refine x_iand rfl ?_
  refine x_istore rfl (Nat.le_of_ble_eq_true rfl) rfl ?_
  refine x_iload rfl rfl ?_
  exact x_ifeq rfl (rng_yand _ _) kt kf
theorem uX9_prepareHalves_55 {d : Nat} {Q : yM → Prop} {M : yM} {x0 : Nat} {x1 : Int} {x2 : Int} {x3 : Int} {x4 : Int} {x5 : Int} {x6 : Int} {x7 : Int} {wx8 : Option yV} (h1 : tabSh x0) (h2 : 0 ≤ ((x3 + (16 * x6)) + x5) ∧ ((x3 + (16 * x6)) + x5) < 1024) (h3 : 0 ≤ ((x3 + (16 * (x4 - x6))) + x5) ∧ ((x3 + (16 * (x4 - x6))) + x5) < 1024) (k : XW kX9_prepareHalves d none (wQv Q) 167 [some (.inr (.inr x0)), some (.inl x1), some (.inl x2), some (.inl x3), some (.inl x4), some (.inl x5), some (.inl x6), some (.inl x7), some (.inl (yor (ld M (x0 + 4) ((x3 + (16 * x6)) + x5)) (ld M (x0 + 4) ((x3 + (16 * (x4 - x6))) + x5))))] [] M) : XW kX9_prepareHalves d none (wQv Q) 55 [some (.inr (.inr x0)), some (.inl x1), some (.inl x2), some (.inl x3), some (.inl x4), some (.inl x5), some (.inl x6), some (.inl x7), wx8] [] M := by
  refine x_aload_n rfl rfl ?_
  refine x_getR rfl h1.1 rfl ?_
  refine x_iload_n rfl rfl ?_
  refine x_bipush 16 rfl (by decide) ?_
  refine x_iload rfl rfl ?_
  refine x_imul rfl ?_
  refine x_iadd rfl ?_
  refine x_iload rfl rfl ?_
  refine x_iadd rfl ?_
  refine x_iaload rfl h1.2.2.2.2.1 h2 ?_
  refine x_aload_n rfl rfl ?_
  refine x_getR rfl h1.1 rfl ?_
  refine x_iload_n rfl rfl ?_
  refine x_bipush 16 rfl (by decide) ?_
  refine x_iload rfl rfl ?_
  refine x_iload rfl rfl ?_
  refine x_isub rfl ?_
  refine x_imul rfl ?_
  refine x_iadd rfl ?_
  refine x_iload rfl rfl ?_
  refine x_iadd rfl ?_
  refine x_iaload rfl h1.2.2.2.2.1 h3 ?_
  refine x_ior rfl ?_
  refine x_istore rfl (Nat.le_of_ble_eq_true rfl) rfl ?_
  exact x_goto rfl k
theorem uX9_prepareHalves_94 {d : Nat} {Q : yM → Prop} {M : yM} {x0 : Nat} {x1 : Int} {x2 : Int} {x3 : Int} {x4 : Int} {x5 : Int} {x6 : Int} {x7 : Int} {wx8 : Option yV} (h1 : -2147483648 ≤ x7 ∧ x7 < 2147483648) (kt : x7 = 0 → XW kX9_prepareHalves d none (wQv Q) 138 [some (.inr (.inr x0)), some (.inl x1), some (.inl x2), some (.inl x3), some (.inl x4), some (.inl x5), some (.inl x6), some (.inl x7), wx8] [] M) (kf : x7 ≠ 0 → XW kX9_prepareHalves d none (wQv Q) 99 [some (.inr (.inr x0)), some (.inl x1), some (.inl x2), some (.inl x3), some (.inl x4), some (.inl x5), some (.inl x6), some (.inl x7), wx8] [] M) : XW kX9_prepareHalves d none (wQv Q) 94 [some (.inr (.inr x0)), some (.inl x1), some (.inl x2), some (.inl x3), some (.inl x4), some (.inl x5), some (.inl x6), some (.inl x7), wx8] [] M := by
  refine x_iload rfl rfl ?_
  exact x_ifeq rfl h1 kt kf
theorem uX9_prepareHalves_99 {d : Nat} {Q : yM → Prop} {M : yM} {x0 : Nat} {x1 : Int} {x2 : Int} {x3 : Int} {x4 : Int} {x5 : Int} {x6 : Int} {x7 : Int} {wx8 : Option yV} (h1 : tabSh x0) (h2 : 0 ≤ ((x3 + (16 * x4)) + x7) ∧ ((x3 + (16 * x4)) + x7) < 1024) (h3 : 0 ≤ (((x3 + (16 * x4)) + x5) - x7) ∧ (((x3 + (16 * x4)) + x5) - x7) < 1024) (k : XW kX9_prepareHalves d none (wQv Q) 167 [some (.inr (.inr x0)), some (.inl x1), some (.inl x2), some (.inl x3), some (.inl x4), some (.inl x5), some (.inl x6), some (.inl x7), some (.inl (yor (ld M (x0 + 4) ((x3 + (16 * x4)) + x7)) (ld M (x0 + 4) (((x3 + (16 * x4)) + x5) - x7))))] [] M) : XW kX9_prepareHalves d none (wQv Q) 99 [some (.inr (.inr x0)), some (.inl x1), some (.inl x2), some (.inl x3), some (.inl x4), some (.inl x5), some (.inl x6), some (.inl x7), wx8] [] M := by
  refine x_aload_n rfl rfl ?_
  refine x_getR rfl h1.1 rfl ?_
  refine x_iload_n rfl rfl ?_
  refine x_bipush 16 rfl (by decide) ?_
  refine x_iload rfl rfl ?_
  refine x_imul rfl ?_
  refine x_iadd rfl ?_
  refine x_iload rfl rfl ?_
  refine x_iadd rfl ?_
  refine x_iaload rfl h1.2.2.2.2.1 h2 ?_
  refine x_aload_n rfl rfl ?_
  refine x_getR rfl h1.1 rfl ?_
  refine x_iload_n rfl rfl ?_
  refine x_bipush 16 rfl (by decide) ?_
  refine x_iload rfl rfl ?_
  refine x_imul rfl ?_
  refine x_iadd rfl ?_
  refine x_iload rfl rfl ?_
  refine x_iadd rfl ?_
  refine x_iload rfl rfl ?_
  refine x_isub rfl ?_
  refine x_iaload rfl h1.2.2.2.2.1 h3 ?_
  refine x_ior rfl ?_
  refine x_istore rfl (Nat.le_of_ble_eq_true rfl) rfl ?_
  exact x_goto rfl k
theorem uX9_prepareHalves_138 {d : Nat} {Q : yM → Prop} {M : yM} {x0 : Nat} {x1 : Int} {x2 : Int} {x3 : Int} {x4 : Int} {x5 : Int} {x6 : Int} {x7 : Int} {wx8 : Option yV} (h1 : tabSh x0) (k : XCi d 116 [.inl x4] M (fun v M' => XW kX9_prepareHalves (d + 1) none (wQv Q) 152 [some (.inr (.inr x0)), some (.inl x1), some (.inl x2), some (.inl x3), some (.inl x4), some (.inl x5), some (.inl x6), some (.inl x7), wx8] [.inl v, .inl (4 * x1), .inl 8, .inr (.inr (x0 + 2))] M')) : XW kX9_prepareHalves (d + 1) none (wQv Q) 138 [some (.inr (.inr x0)), some (.inl x1), some (.inl x2), some (.inl x3), some (.inl x4), some (.inl x5), some (.inl x6), some (.inl x7), wx8] [] M := by
  refine x_aload_n rfl rfl ?_
  refine x_getR rfl h1.1 rfl ?_
  refine x_bipush 8 rfl (by decide) ?_
  refine x_iconst 4 rfl (by decide) ?_
  refine x_iload_n rfl rfl ?_
  refine x_imul rfl ?_
  refine x_iload rfl rfl ?_
  exact x_calli (args := [.inl x4]) rfl rfl rfl k
theorem uX9_prepareHalves_152 {d : Nat} {Q : yM → Prop} {M : yM} {x0 : Nat} {x1 : Int} {x2 : Int} {x3 : Int} {x4 : Int} {x5 : Int} {x6 : Int} {x7 : Int} {wx8 : Option yV} {s0 : Int} {s1 : Int} {s2 : Int} {s3 : Nat} (k : XCi d 116 [.inl x5] M (fun v M' => XW kX9_prepareHalves (d + 1) none (wQv Q) 163 [some (.inr (.inr x0)), some (.inl x1), some (.inl x2), some (.inl x3), some (.inl x4), some (.inl x5), some (.inl x6), some (.inl x7), wx8] [.inl v, .inl ((s2 * (s1 + s0)) + (4 * x2)), .inr (.inr s3)] M')) : XW kX9_prepareHalves (d + 1) none (wQv Q) 152 [some (.inr (.inr x0)), some (.inl x1), some (.inl x2), some (.inl x3), some (.inl x4), some (.inl x5), some (.inl x6), some (.inl x7), wx8] [.inl s0, .inl s1, .inl s2, .inr (.inr s3)] M := by
  refine x_iadd rfl ?_
  refine x_imul rfl ?_
  refine x_iconst 4 rfl (by decide) ?_
  refine x_iload_n rfl rfl ?_
  refine x_imul rfl ?_
  refine x_iadd rfl ?_
  refine x_iload rfl rfl ?_
  exact x_calli (args := [.inl x5]) rfl rfl rfl k
theorem uX9_prepareHalves_163 {d : Nat} {Q : yM → Prop} {M : yM} {x0 : Nat} {x1 : Int} {x2 : Int} {x3 : Int} {x4 : Int} {x5 : Int} {x6 : Int} {x7 : Int} {wx8 : Option yV} {s0 : Int} {s1 : Int} {s2 : Nat} (h1 : arrSh s2 64) (h2 : 0 ≤ (s1 + s0) ∧ (s1 + s0) < 64) (k : XW kX9_prepareHalves d none (wQv Q) 167 [some (.inr (.inr x0)), some (.inl x1), some (.inl x2), some (.inl x3), some (.inl x4), some (.inl x5), some (.inl x6), some (.inl x7), some (.inl (ld M s2 (s1 + s0)))] [] M) : XW kX9_prepareHalves d none (wQv Q) 163 [some (.inr (.inr x0)), some (.inl x1), some (.inl x2), some (.inl x3), some (.inl x4), some (.inl x5), some (.inl x6), some (.inl x7), wx8] [.inl s0, .inl s1, .inr (.inr s2)] M := by
  refine x_iadd rfl ?_
  refine x_iaload rfl h1 h2 ?_
  refine x_istore rfl (Nat.le_of_ble_eq_true rfl) rfl ?_
  exact k
theorem uX9_prepareHalves_167 {d : Nat} {Q : yM → Prop} {M : yM} {x0 : Nat} {x1 : Int} {x2 : Int} {x3 : Int} {x4 : Int} {x5 : Int} {x6 : Int} {x7 : Int} {x8 : Int} (h1 : tabSh x0) (h2 : 0 ≤ ((x3 + (16 * x4)) + x5) ∧ ((x3 + (16 * x4)) + x5) < 1024) (k : ∀ M', M' = (put M (x0 + 4) ((x3 + (16 * x4)) + x5) x8) → XW kX9_prepareHalves d none (wQv Q) 184 [some (.inr (.inr x0)), some (.inl x1), some (.inl x2), some (.inl x3), some (.inl x4), some (.inl x5), some (.inl x6), some (.inl x7), some (.inl x8)] [] M') : XW kX9_prepareHalves d none (wQv Q) 167 [some (.inr (.inr x0)), some (.inl x1), some (.inl x2), some (.inl x3), some (.inl x4), some (.inl x5), some (.inl x6), some (.inl x7), some (.inl x8)] [] M := by
  refine x_aload_n rfl rfl ?_
  refine x_getR rfl h1.1 rfl ?_
  refine x_iload_n rfl rfl ?_
  refine x_bipush 16 rfl (by decide) ?_
  refine x_iload rfl rfl ?_
  refine x_imul rfl ?_
  refine x_iadd rfl ?_
  refine x_iload rfl rfl ?_
  refine x_iadd rfl ?_
  refine x_iload rfl rfl ?_
  refine x_iastore rfl h1.2.2.2.2.1 h2  ?_
  exact k _ rfl
theorem uX9_prepareHalves_184 {d : Nat} {Q : yM → Prop} {M : yM} {x0 : Nat} {x1 : Int} {x2 : Int} {x3 : Int} {x4 : Int} {x5 : Int} {x6 : Int} {x7 : Int} {x8 : Int} (k : XW kX9_prepareHalves d none (wQv Q) 25 [some (.inr (.inr x0)), some (.inl x1), some (.inl x2), some (.inl x3), some (.inl x4), some (.inl (x5 + 1)), some (.inl x6), some (.inl x7), some (.inl x8)] [] M) : XW kX9_prepareHalves d none (wQv Q) 184 [some (.inr (.inr x0)), some (.inl x1), some (.inl x2), some (.inl x3), some (.inl x4), some (.inl x5), some (.inl x6), some (.inl x7), some (.inl x8)] [] M := by
  refine x_iinc 1 rfl (by decide) rfl rfl ?_
  exact x_goto rfl k
theorem uX9_prepareHalves_190 {d : Nat} {Q : yM → Prop} {M : yM} {x0 : Nat} {x1 : Int} {x2 : Int} {x3 : Int} {x4 : Int} {x5 : Int} {wx6 : Option yV} {wx7 : Option yV} {wx8 : Option yV} (k : XW kX9_prepareHalves d none (wQv Q) 15 [some (.inr (.inr x0)), some (.inl x1), some (.inl x2), some (.inl x3), some (.inl (x4 + 1)), some (.inl x5), wx6, wx7, wx8] [] M) : XW kX9_prepareHalves d none (wQv Q) 190 [some (.inr (.inr x0)), some (.inl x1), some (.inl x2), some (.inl x3), some (.inl x4), some (.inl x5), wx6, wx7, wx8] [] M := by
  refine x_iinc 1 rfl (by decide) rfl rfl ?_
  exact x_goto rfl k
theorem uX9_prepareHalves_196 {d : Nat} {Q : yM → Prop} {M : yM} {x0 : Nat} {x1 : Int} {x2 : Int} {x3 : Int} {x4 : Int} {wx5 : Option yV} {wx6 : Option yV} {wx7 : Option yV} {wx8 : Option yV} (k : Q M) : XW kX9_prepareHalves d none (wQv Q) 196 [some (.inr (.inr x0)), some (.inl x1), some (.inl x2), some (.inl x3), some (.inl x4), wx5, wx6, wx7, wx8] [] M := by
  exact x_return rfl k
theorem eX9_turnSet {d : Nat} {Q : Int → yM → Prop} {M : yM} {x1 : Int}  (h : XW kX9_turnSet d (some .int) (wQi Q) 0 [some (.inr (.inr 1)), some (.inl x1)] [] M) : XCi d 70 [.inr (.inr 1), .inl x1] M Q :=
  XC.ofW (Mm := (yX9_turnSet, cX9_turnSet, 2, (some .int), 10, kX9_turnSet)) rfl (rcv_ok sh1) rfl rfl h
theorem uX9_turnSet_0 {d : Nat} {Q : Int → yM → Prop} {M : yM} {x1 : Int} (h1 : 0 ≤ (yand x1 255) ∧ (yand x1 255) < 256) (k : Q (ld M 4 (yand x1 255)) M) : XW kX9_turnSet d (some .int) (wQi Q) 0 [some (.inr (.inr 1)), some (.inl x1)] [] M := by
  refine x_aload_n rfl rfl ?_
  refine x_getR rfl sh1 rfl ?_
  refine x_iload_n rfl rfl ?_
  refine x_sipush 255 rfl (by decide) ?_
  refine x_iand rfl ?_
  refine x_iaload rfl ⟨sh4, Nat.le_of_ble_eq_true rfl⟩ h1 ?_
  exact x_ireturn rfl k
theorem eX9_joinSets {d : Nat} {Q : Int → yM → Prop} {M : yM} {x1 : Int} {x2 : Int}  (h : XW kX9_joinSets d (some .int) (wQi Q) 0 [some (.inr (.inr 1)), some (.inl x1), some (.inl x2), none, none, none, none] [] M) : XCi d 71 [.inr (.inr 1), .inl x1, .inl x2] M Q :=
  XC.ofW (Mm := (yX9_joinSets, cX9_joinSets, 7, (some .int), 10, kX9_joinSets)) rfl (rcv_ok sh1) rfl rfl h
theorem uX9_joinSets_0 {d : Nat} {Q : Int → yM → Prop} {M : yM} {x1 : Int} {x2 : Int} (h1 : 0 ≤ (yor (yshl (yand x1 15) 4) (yand x2 15)) ∧ (yor (yshl (yand x1 15) 4) (yand x2 15)) < 1024) (h2 : 0 ≤ (yor (yor 256 (yshl (yand x1 15) 4)) (yand (yshr x2 4) 15)) ∧ (yor (yor 256 (yshl (yand x1 15) 4)) (yand (yshr x2 4) 15)) < 1024) (h3 : 0 ≤ (yor (yor 512 (yand x1 240)) (yand x2 15)) ∧ (yor (yor 512 (yand x1 240)) (yand x2 15)) < 1024) (h4 : 0 ≤ (yor (yor 768 (yand x1 240)) (yand (yshr x2 4) 15)) ∧ (yor (yor 768 (yand x1 240)) (yand (yshr x2 4) 15)) < 1024) (k : Q (yor (yor (yor (ld M 5 (yor (yshl (yand x1 15) 4) (yand x2 15))) (ld M 5 (yor (yor 256 (yshl (yand x1 15) 4)) (yand (yshr x2 4) 15)))) (ld M 5 (yor (yor 512 (yand x1 240)) (yand x2 15)))) (ld M 5 (yor (yor 768 (yand x1 240)) (yand (yshr x2 4) 15)))) M) : XW kX9_joinSets d (some .int) (wQi Q) 0 [some (.inr (.inr 1)), some (.inl x1), some (.inl x2), none, none, none, none] [] M := by
  refine x_iload_n rfl rfl ?_
  refine x_bipush 15 rfl (by decide) ?_
  refine x_iand rfl ?_
  refine x_iconst 4 rfl (by decide) ?_
  refine x_ishl rfl ?_
  refine x_istore_n rfl (Nat.le_of_ble_eq_true rfl) rfl ?_
  refine x_iload_n rfl rfl ?_
  refine x_sipush 240 rfl (by decide) ?_
  refine x_iand rfl ?_
  refine x_istore rfl (Nat.le_of_ble_eq_true rfl) rfl ?_
  refine x_iload_n rfl rfl ?_
  refine x_bipush 15 rfl (by decide) ?_
  refine x_iand rfl ?_
  refine x_istore rfl (Nat.le_of_ble_eq_true rfl) rfl ?_
  refine x_iload_n rfl rfl ?_
  refine x_iconst 4 rfl (by decide) ?_
  refine x_ishr rfl ?_
  refine x_bipush 15 rfl (by decide) ?_
  refine x_iand rfl ?_
  refine x_istore rfl (Nat.le_of_ble_eq_true rfl) rfl ?_
  refine x_aload_n rfl rfl ?_
  refine x_getR rfl sh1 rfl ?_
  refine x_iload_n rfl rfl ?_
  refine x_iload rfl rfl ?_
  refine x_ior rfl ?_
  refine x_iaload rfl ⟨sh5, Nat.le_of_ble_eq_true rfl⟩ h1 ?_
  refine x_aload_n rfl rfl ?_
  refine x_getR rfl sh1 rfl ?_
  refine x_sipush 256 rfl (by decide) ?_
  refine x_iload_n rfl rfl ?_
  refine x_ior rfl ?_
  refine x_iload rfl rfl ?_
  refine x_ior rfl ?_
  refine x_iaload rfl ⟨sh5, Nat.le_of_ble_eq_true rfl⟩ h2 ?_
  refine x_ior rfl ?_
  refine x_aload_n rfl rfl ?_
  refine x_getR rfl sh1 rfl ?_
  refine x_sipush 512 rfl (by decide) ?_
  refine x_iload rfl rfl ?_
  refine x_ior rfl ?_
  refine x_iload rfl rfl ?_
  refine x_ior rfl ?_
  refine x_iaload rfl ⟨sh5, Nat.le_of_ble_eq_true rfl⟩ h3 ?_
  refine x_ior rfl ?_
  refine x_aload_n rfl rfl ?_
  refine x_getR rfl sh1 rfl ?_
  refine x_sipush 768 rfl (by decide) ?_
  refine x_iload rfl rfl ?_
  refine x_ior rfl ?_
  refine x_iload rfl rfl ?_
  refine x_ior rfl ?_
  refine x_iaload rfl ⟨sh5, Nat.le_of_ble_eq_true rfl⟩ h4 ?_
  refine x_ior rfl ?_
  exact x_ireturn rfl k
theorem eX9_firstFault {d : Nat} {Q : Int → yM → Prop} {M : yM}   (h : XW kX9_firstFault d (some .int) (wQi Q) 0 [some (.inr (.inr 1)), none, none, none, none, none] [] M) : XCi d 72 [.inr (.inr 1)] M Q :=
  XC.ofW (Mm := (yX9_firstFault, cX9_firstFault, 6, (some .int), 10, kX9_firstFault)) rfl (rcv_ok sh1) rfl rfl h
theorem uX9_firstFault_0 {d : Nat} {Q : Int → yM → Prop} {M : yM}  (k : XW kX9_firstFault d (some .int) (wQi Q) 2 [some (.inr (.inr 1)), some (.inl 0), none, none, none, none] [] M) : XW kX9_firstFault d (some .int) (wQi Q) 0 [some (.inr (.inr 1)), none, none, none, none, none] [] M := by
  refine x_iconst 0 rfl (by decide) ?_
  refine x_istore_n rfl (Nat.le_of_ble_eq_true rfl) rfl ?_
  exact k
theorem uX9_firstFault_2 {d : Nat} {Q : Int → yM → Prop} {M : yM} {x1 : Int} {wx2 : Option yV} {wx3 : Option yV} {wx4 : Option yV} {wx5 : Option yV} (h1 : -2147483648 ≤ x1 ∧ x1 < 2147483648) (kt : x1 ≥ (ld M 1 0) → XW kX9_firstFault d (some .int) (wQi Q) 107 [some (.inr (.inr 1)), some (.inl x1), wx2, wx3, wx4, wx5] [] M) (kf : x1 < (ld M 1 0) → XW kX9_firstFault d (some .int) (wQi Q) 10 [some (.inr (.inr 1)), some (.inl x1), wx2, wx3, wx4, wx5] [] M) : XW kX9_firstFault d (some .int) (wQi Q) 2 [some (.inr (.inr 1)), some (.inl x1), wx2, wx3, wx4, wx5] [] M := by
  refine x_iload_n rfl rfl ?_
  refine x_aload_n rfl rfl ?_
  refine x_getI rfl sh1 rfl ?_
  exact x_icmpge rfl h1 (rng_ld _ _ _) kt kf
theorem uX9_firstFault_10 {d : Nat} {Q : Int → yM → Prop} {M : yM} {x1 : Int} {wx2 : Option yV} {wx3 : Option yV} {wx4 : Option yV} {wx5 : Option yV} (k : XW kX9_firstFault d (some .int) (wQi Q) 12 [some (.inr (.inr 1)), some (.inl x1), some (.inl 0), wx3, wx4, wx5] [] M) : XW kX9_firstFault d (some .int) (wQi Q) 10 [some (.inr (.inr 1)), some (.inl x1), wx2, wx3, wx4, wx5] [] M := by
  refine x_iconst 0 rfl (by decide) ?_
  refine x_istore_n rfl (Nat.le_of_ble_eq_true rfl) rfl ?_
  exact k
theorem uX9_firstFault_12 {d : Nat} {Q : Int → yM → Prop} {M : yM} {x1 : Int} {x2 : Int} {wx3 : Option yV} {wx4 : Option yV} {wx5 : Option yV} (h1 : -2147483648 ≤ x2 ∧ x2 < 2147483648) (kt : x2 ≥ (ld M 1 0) → XW kX9_firstFault d (some .int) (wQi Q) 101 [some (.inr (.inr 1)), some (.inl x1), some (.inl x2), wx3, wx4, wx5] [] M) (kf : x2 < (ld M 1 0) → XW kX9_firstFault d (some .int) (wQi Q) 20 [some (.inr (.inr 1)), some (.inl x1), some (.inl x2), wx3, wx4, wx5] [] M) : XW kX9_firstFault d (some .int) (wQi Q) 12 [some (.inr (.inr 1)), some (.inl x1), some (.inl x2), wx3, wx4, wx5] [] M := by
  refine x_iload_n rfl rfl ?_
  refine x_aload_n rfl rfl ?_
  refine x_getI rfl sh1 rfl ?_
  exact x_icmpge rfl h1 (rng_ld _ _ _) kt kf
theorem uX9_firstFault_20 {d : Nat} {Q : Int → yM → Prop} {M : yM} {x1 : Int} {x2 : Int} {wx3 : Option yV} {wx4 : Option yV} {wx5 : Option yV} (k : XW kX9_firstFault d (some .int) (wQi Q) 22 [some (.inr (.inr 1)), some (.inl x1), some (.inl x2), some (.inl 0), wx4, wx5] [] M) : XW kX9_firstFault d (some .int) (wQi Q) 20 [some (.inr (.inr 1)), some (.inl x1), some (.inl x2), wx3, wx4, wx5] [] M := by
  refine x_iconst 0 rfl (by decide) ?_
  refine x_istore_n rfl (Nat.le_of_ble_eq_true rfl) rfl ?_
  exact k
theorem uX9_firstFault_22 {d : Nat} {Q : Int → yM → Prop} {M : yM} {x1 : Int} {x2 : Int} {x3 : Int} {wx4 : Option yV} {wx5 : Option yV} (h1 : -2147483648 ≤ x3 ∧ x3 < 2147483648) (kt : x3 ≥ (ld M 1 0) → XW kX9_firstFault d (some .int) (wQi Q) 95 [some (.inr (.inr 1)), some (.inl x1), some (.inl x2), some (.inl x3), wx4, wx5] [] M) (kf : x3 < (ld M 1 0) → XW kX9_firstFault d (some .int) (wQi Q) 30 [some (.inr (.inr 1)), some (.inl x1), some (.inl x2), some (.inl x3), wx4, wx5] [] M) : XW kX9_firstFault d (some .int) (wQi Q) 22 [some (.inr (.inr 1)), some (.inl x1), some (.inl x2), some (.inl x3), wx4, wx5] [] M := by
  refine x_iload_n rfl rfl ?_
  refine x_aload_n rfl rfl ?_
  refine x_getI rfl sh1 rfl ?_
  exact x_icmpge rfl h1 (rng_ld _ _ _) kt kf
theorem uX9_firstFault_30 {d : Nat} {Q : Int → yM → Prop} {M : yM} {x1 : Int} {x2 : Int} {x3 : Int} {wx4 : Option yV} {wx5 : Option yV} (h1 : 0 ≤ ((8 * x1) + x2) ∧ ((8 * x1) + x2) < 64) (k : XCi d 71 [.inr (.inr 1), .inl (ld M 3 ((8 * x1) + x2)), .inl (yshl 1 x3)] M (fun v M' => XW kX9_firstFault (d + 1) (some .int) (wQi Q) 48 [some (.inr (.inr 1)), some (.inl x1), some (.inl x2), some (.inl x3), wx4, wx5] [.inl v] M')) : XW kX9_firstFault (d + 1) (some .int) (wQi Q) 30 [some (.inr (.inr 1)), some (.inl x1), some (.inl x2), some (.inl x3), wx4, wx5] [] M := by
  refine x_aload_n rfl rfl ?_
  refine x_aload_n rfl rfl ?_
  refine x_getR rfl sh1 rfl ?_
  refine x_bipush 8 rfl (by decide) ?_
  refine x_iload_n rfl rfl ?_
  refine x_imul rfl ?_
  refine x_iload_n rfl rfl ?_
  refine x_iadd rfl ?_
  refine x_iaload rfl ⟨sh3, Nat.le_of_ble_eq_true rfl⟩ h1 ?_
  refine x_iconst 1 rfl (by decide) ?_
  refine x_iload_n rfl rfl ?_
  refine x_ishl rfl ?_
  exact x_calli (args := [.inr (.inr 1), .inl (ld M 3 ((8 * x1) + x2)), .inl (yshl 1 x3)]) rfl rfl rfl k
theorem uX9_firstFault_48 {d : Nat} {Q : Int → yM → Prop} {M : yM} {x1 : Int} {x2 : Int} {x3 : Int} {wx4 : Option yV} {wx5 : Option yV} {s0 : Int} (h1 : 0 ≤ ((8 * x2) + x3) ∧ ((8 * x2) + x3) < 64) (k : XCi d 71 [.inr (.inr 1), .inl (yshl 1 x1), .inl (ld M 3 ((8 * x2) + x3))] M (fun v M' => XW kX9_firstFault (d + 1) (some .int) (wQi Q) 68 [some (.inr (.inr 1)), some (.inl x1), some (.inl x2), some (.inl x3), some (.inl s0), wx5] [.inl v] M')) : XW kX9_firstFault (d + 1) (some .int) (wQi Q) 48 [some (.inr (.inr 1)), some (.inl x1), some (.inl x2), some (.inl x3), wx4, wx5] [.inl s0] M := by
  refine x_istore rfl (Nat.le_of_ble_eq_true rfl) rfl ?_
  refine x_aload_n rfl rfl ?_
  refine x_iconst 1 rfl (by decide) ?_
  refine x_iload_n rfl rfl ?_
  refine x_ishl rfl ?_
  refine x_aload_n rfl rfl ?_
  refine x_getR rfl sh1 rfl ?_
  refine x_bipush 8 rfl (by decide) ?_
  refine x_iload_n rfl rfl ?_
  refine x_imul rfl ?_
  refine x_iload_n rfl rfl ?_
  refine x_iadd rfl ?_
  refine x_iaload rfl ⟨sh3, Nat.le_of_ble_eq_true rfl⟩ h1 ?_
  exact x_calli (args := [.inr (.inr 1), .inl (yshl 1 x1), .inl (ld M 3 ((8 * x2) + x3))]) rfl rfl rfl k
theorem uX9_firstFault_68 {d : Nat} {Q : Int → yM → Prop} {M : yM} {x1 : Int} {x2 : Int} {x3 : Int} {x4 : Int} {wx5 : Option yV} {s0 : Int} (h1 : -2147483648 ≤ x4 ∧ x4 < 2147483648) (h2 : -2147483648 ≤ s0 ∧ s0 < 2147483648) (kt : x4 = s0 → XW kX9_firstFault d (some .int) (wQi Q) 89 [some (.inr (.inr 1)), some (.inl x1), some (.inl x2), some (.inl x3), some (.inl x4), some (.inl s0)] [] M) (kf : x4 ≠ s0 → XW kX9_firstFault d (some .int) (wQi Q) 77 [some (.inr (.inr 1)), some (.inl x1), some (.inl x2), some (.inl x3), some (.inl x4), some (.inl s0)] [] M) : XW kX9_firstFault d (some .int) (wQi Q) 68 [some (.inr (.inr 1)), some (.inl x1), some (.inl x2), some (.inl x3), some (.inl x4), wx5] [.inl s0] M := by
  refine x_istore rfl (Nat.le_of_ble_eq_true rfl) rfl ?_
  refine x_iload rfl rfl ?_
  refine x_iload rfl rfl ?_
  exact x_icmpeq rfl h1 h2 kt kf
theorem uX9_firstFault_77 {d : Nat} {Q : Int → yM → Prop} {M : yM} {x1 : Int} {x2 : Int} {x3 : Int} {x4 : Int} {x5 : Int} (k : Q (((64 * x1) + (8 * x2)) + x3) M) : XW kX9_firstFault d (some .int) (wQi Q) 77 [some (.inr (.inr 1)), some (.inl x1), some (.inl x2), some (.inl x3), some (.inl x4), some (.inl x5)] [] M := by
  refine x_bipush 64 rfl (by decide) ?_
  refine x_iload_n rfl rfl ?_
  refine x_imul rfl ?_
  refine x_bipush 8 rfl (by decide) ?_
  refine x_iload_n rfl rfl ?_
  refine x_imul rfl ?_
  refine x_iadd rfl ?_
  refine x_iload_n rfl rfl ?_
  refine x_iadd rfl ?_
  exact x_ireturn rfl k
theorem uX9_firstFault_89 {d : Nat} {Q : Int → yM → Prop} {M : yM} {x1 : Int} {x2 : Int} {x3 : Int} {x4 : Int} {x5 : Int} (k : XW kX9_firstFault d (some .int) (wQi Q) 22 [some (.inr (.inr 1)), some (.inl x1), some (.inl x2), some (.inl (x3 + 1)), some (.inl x4), some (.inl x5)] [] M) : XW kX9_firstFault d (some .int) (wQi Q) 89 [some (.inr (.inr 1)), some (.inl x1), some (.inl x2), some (.inl x3), some (.inl x4), some (.inl x5)] [] M := by
  refine x_iinc 1 rfl (by decide) rfl rfl ?_
  exact x_goto rfl k
theorem uX9_firstFault_95 {d : Nat} {Q : Int → yM → Prop} {M : yM} {x1 : Int} {x2 : Int} {x3 : Int} {wx4 : Option yV} {wx5 : Option yV} (k : XW kX9_firstFault d (some .int) (wQi Q) 12 [some (.inr (.inr 1)), some (.inl x1), some (.inl (x2 + 1)), some (.inl x3), wx4, wx5] [] M) : XW kX9_firstFault d (some .int) (wQi Q) 95 [some (.inr (.inr 1)), some (.inl x1), some (.inl x2), some (.inl x3), wx4, wx5] [] M := by
  refine x_iinc 1 rfl (by decide) rfl rfl ?_
  exact x_goto rfl k
theorem uX9_firstFault_101 {d : Nat} {Q : Int → yM → Prop} {M : yM} {x1 : Int} {x2 : Int} {wx3 : Option yV} {wx4 : Option yV} {wx5 : Option yV} (k : XW kX9_firstFault d (some .int) (wQi Q) 2 [some (.inr (.inr 1)), some (.inl (x1 + 1)), some (.inl x2), wx3, wx4, wx5] [] M) : XW kX9_firstFault d (some .int) (wQi Q) 101 [some (.inr (.inr 1)), some (.inl x1), some (.inl x2), wx3, wx4, wx5] [] M := by
  refine x_iinc 1 rfl (by decide) rfl rfl ?_
  exact x_goto rfl k
theorem uX9_firstFault_107 {d : Nat} {Q : Int → yM → Prop} {M : yM} {x1 : Int} {wx2 : Option yV} {wx3 : Option yV} {wx4 : Option yV} {wx5 : Option yV} (k : Q (-9) M) : XW kX9_firstFault d (some .int) (wQi Q) 107 [some (.inr (.inr 1)), some (.inl x1), wx2, wx3, wx4, wx5] [] M := by
  refine x_bipush (-9) rfl (by decide) ?_
  exact x_ireturn rfl k
theorem eX9_howManyTriangles {d : Nat} {Q : Int → yM → Prop} {M : yM}   (h : XW kX9_howManyTriangles d (some .int) (wQi Q) 0 [some (.inr (.inr 1)), none, none] [] M) : XCi d 73 [.inr (.inr 1)] M Q :=
  XC.ofW (Mm := (yX9_howManyTriangles, cX9_howManyTriangles, 3, (some .int), 10, kX9_howManyTriangles)) rfl (rcv_ok sh1) rfl rfl h
theorem uX9_howManyTriangles_0 {d : Nat} {Q : Int → yM → Prop} {M : yM}  (k : XW kX9_howManyTriangles d (some .int) (wQi Q) 4 [some (.inr (.inr 1)), some (.inl 0), some (.inl 0)] [] M) : XW kX9_howManyTriangles d (some .int) (wQi Q) 0 [some (.inr (.inr 1)), none, none] [] M := by
  refine x_iconst 0 rfl (by decide) ?_
  refine x_istore_n rfl (Nat.le_of_ble_eq_true rfl) rfl ?_
  refine x_iconst 0 rfl (by decide) ?_
  refine x_istore_n rfl (Nat.le_of_ble_eq_true rfl) rfl ?_
  exact k
theorem uX9_howManyTriangles_4 {d : Nat} {Q : Int → yM → Prop} {M : yM} {x1 : Int} {x2 : Int} (h1 : -2147483648 ≤ x2 ∧ x2 < 2147483648) (kt : x2 ≥ 64 → XW kX9_howManyTriangles d (some .int) (wQi Q) 28 [some (.inr (.inr 1)), some (.inl x1), some (.inl x2)] [] M) (kf : x2 < 64 → XW kX9_howManyTriangles d (some .int) (wQi Q) 10 [some (.inr (.inr 1)), some (.inl x1), some (.inl x2)] [] M) : XW kX9_howManyTriangles d (some .int) (wQi Q) 4 [some (.inr (.inr 1)), some (.inl x1), some (.inl x2)] [] M := by
  refine x_iload_n rfl rfl ?_
  refine x_bipush 64 rfl (by decide) ?_
  exact x_icmpge rfl h1 (by decide) kt kf
theorem uX9_howManyTriangles_10 {d : Nat} {Q : Int → yM → Prop} {M : yM} {x1 : Int} {x2 : Int} (h1 : 0 ≤ x2 ∧ x2 < 64) (k : XCi d 179 [.inl (ld M 3 x2)] M (fun v M' => XW kX9_howManyTriangles (d + 1) (some .int) (wQi Q) 20 [some (.inr (.inr 1)), some (.inl x1), some (.inl x2)] [.inl v, .inl x1] M')) : XW kX9_howManyTriangles (d + 1) (some .int) (wQi Q) 10 [some (.inr (.inr 1)), some (.inl x1), some (.inl x2)] [] M := by
  refine x_iload_n rfl rfl ?_
  refine x_aload_n rfl rfl ?_
  refine x_getR rfl sh1 rfl ?_
  refine x_iload_n rfl rfl ?_
  refine x_iaload rfl ⟨sh3, Nat.le_of_ble_eq_true rfl⟩ h1 ?_
  exact x_calli (args := [.inl (ld M 3 x2)]) rfl rfl rfl k
theorem uX9_howManyTriangles_20 {d : Nat} {Q : Int → yM → Prop} {M : yM} {x1 : Int} {x2 : Int} {s0 : Int} {s1 : Int} (k : XW kX9_howManyTriangles d (some .int) (wQi Q) 4 [some (.inr (.inr 1)), some (.inl (s1 + s0)), some (.inl (x2 + 1))] [] M) : XW kX9_howManyTriangles d (some .int) (wQi Q) 20 [some (.inr (.inr 1)), some (.inl x1), some (.inl x2)] [.inl s0, .inl s1] M := by
  refine x_iadd rfl ?_
  refine x_istore_n rfl (Nat.le_of_ble_eq_true rfl) rfl ?_
  refine x_iinc 1 rfl (by decide) rfl rfl ?_
  exact x_goto rfl k
theorem uX9_howManyTriangles_28 {d : Nat} {Q : Int → yM → Prop} {M : yM} {x1 : Int} {x2 : Int} (k : Q x1 M) : XW kX9_howManyTriangles d (some .int) (wQi Q) 28 [some (.inr (.inr 1)), some (.inl x1), some (.inl x2)] [] M := by
  refine x_iload_n rfl rfl ?_
  exact x_ireturn rfl k
theorem eX9_copyFrom {d : Nat} {Q : yM → Prop} {M : yM} {x0 : Nat} {x1 : Nat} (hT : tabSh x0) (h : XW kX9_copyFrom d none (wQv Q) 0 [some (.inr (.inr x0)), some (.inr (.inr x1))] [] M) : XCv d 74 [.inr (.inr x0), .inr (.inr x1)] M Q :=
  XC.ofW (Mm := (yX9_copyFrom, cX9_copyFrom, 2, none, 10, kX9_copyFrom)) rfl (rcv_ok hT.1) rfl rfl h
theorem uX9_copyFrom_0 {d : Nat} {Q : yM → Prop} {M : yM} {x0 : Nat} {x1 : Nat} (h1 : tabSh x1) (h2 : tabSh x0) (k : ∀ M', M' = (put M x0 0 (ld M x1 0)) → XW kX9_copyFrom d none (wQv Q) 8 [some (.inr (.inr x0)), some (.inr (.inr x1))] [] M') : XW kX9_copyFrom d none (wQv Q) 0 [some (.inr (.inr x0)), some (.inr (.inr x1))] [] M := by
  refine x_aload_n rfl rfl ?_
  refine x_aload_n rfl rfl ?_
  refine x_getI rfl h1.1 rfl ?_
  refine x_putI rfl rfl h2.1 rfl ?_
  exact k _ rfl
theorem uX9_copyFrom_8 {d : Nat} {Q : yM → Prop} {M : yM} {x0 : Nat} {x1 : Nat} (h1 : tabSh x1) (h2 : tabSh x0) (k : ∀ M', M' = (cpy M (x1 + 1) (x0 + 1) 0 0 8) → XW kX9_copyFrom d none (wQv Q) 23 [some (.inr (.inr x0)), some (.inr (.inr x1))] [] M') : XW kX9_copyFrom d none (wQv Q) 8 [some (.inr (.inr x0)), some (.inr (.inr x1))] [] M := by
  refine x_aload_n rfl rfl ?_
  refine x_getR rfl h1.1 rfl ?_
  refine x_iconst 0 rfl (by decide) ?_
  refine x_aload_n rfl rfl ?_
  refine x_getR rfl h2.1 rfl ?_
  refine x_iconst 0 rfl (by decide) ?_
  refine x_bipush 8 rfl (by decide) ?_
  refine x_cpy rfl h1.2.1 h2.2.1 (by decide) (Nat.le_of_ble_eq_true rfl) ?_
  exact k _ rfl
theorem uX9_copyFrom_23 {d : Nat} {Q : yM → Prop} {M : yM} {x0 : Nat} {x1 : Nat} (h1 : tabSh x1) (h2 : tabSh x0) (k : ∀ M', M' = (cpy M (x1 + 2) (x0 + 2) 0 0 64) → XW kX9_copyFrom d none (wQv Q) 38 [some (.inr (.inr x0)), some (.inr (.inr x1))] [] M') : XW kX9_copyFrom d none (wQv Q) 23 [some (.inr (.inr x0)), some (.inr (.inr x1))] [] M := by
  refine x_aload_n rfl rfl ?_
  refine x_getR rfl h1.1 rfl ?_
  refine x_iconst 0 rfl (by decide) ?_
  refine x_aload_n rfl rfl ?_
  refine x_getR rfl h2.1 rfl ?_
  refine x_iconst 0 rfl (by decide) ?_
  refine x_bipush 64 rfl (by decide) ?_
  refine x_cpy rfl h1.2.2.1 h2.2.2.1 (by decide) (Nat.le_of_ble_eq_true rfl) ?_
  exact k _ rfl
theorem uX9_copyFrom_38 {d : Nat} {Q : yM → Prop} {M : yM} {x0 : Nat} {x1 : Nat} (k : XCv d 68 [.inr (.inr x0)] M (fun M' => XW kX9_copyFrom (d + 1) none (wQv Q) 42 [some (.inr (.inr x0)), some (.inr (.inr x1))] [] M')) : XW kX9_copyFrom (d + 1) none (wQv Q) 38 [some (.inr (.inr x0)), some (.inr (.inr x1))] [] M := by
  refine x_aload_n rfl rfl ?_
  exact x_callv (args := [.inr (.inr x0)]) rfl rfl rfl k
theorem uX9_copyFrom_42 {d : Nat} {Q : yM → Prop} {M : yM} {x0 : Nat} {x1 : Nat} (k : Q M) : XW kX9_copyFrom d none (wQv Q) 42 [some (.inr (.inr x0)), some (.inr (.inr x1))] [] M := by
  exact x_return rfl k
theorem eX9_canFuse {d : Nat} {Q : Int → yM → Prop} {M : yM} {x1 : Int} {x2 : Int}  (h : XW kX9_canFuse d (some .boolean) (wQi Q) 0 [some (.inr (.inr 1)), some (.inl x1), some (.inl x2)] [] M) : XCi d 75 [.inr (.inr 1), .inl x1, .inl x2] M Q :=
  XC.ofW (Mm := (yX9_canFuse, cX9_canFuse, 3, (some .boolean), 10, kX9_canFuse)) rfl (rcv_ok sh1) rfl rfl h
theorem uX9_canFuse_0 {d : Nat} {Q : Int → yM → Prop} {M : yM} {x1 : Int} {x2 : Int} (h1 : 0 ≤ x1 ∧ x1 < 8) (h2 : -2147483648 ≤ x1 ∧ x1 < 2147483648) (kt : (ld M 2 x1) ≠ x1 → XW kX9_canFuse d (some .boolean) (wQi Q) 14 [some (.inr (.inr 1)), some (.inl x1), some (.inl x2)] [] M) (kf : (ld M 2 x1) = x1 → XW kX9_canFuse d (some .boolean) (wQi Q) 10 [some (.inr (.inr 1)), some (.inl x1), some (.inl x2)] [] M) : XW kX9_canFuse d (some .boolean) (wQi Q) 0 [some (.inr (.inr 1)), some (.inl x1), some (.inl x2)] [] M := by
  refine x_aload_n rfl rfl ?_
  refine x_getR rfl sh1 rfl ?_
  refine x_iload_n rfl rfl ?_
  refine x_iaload rfl ⟨sh2, Nat.le_of_ble_eq_true rfl⟩ h1 ?_
  refine x_iload_n rfl rfl ?_
  exact x_icmpne rfl (rng_ld _ _ _) h2 kt kf
theorem uX9_canFuse_10 {d : Nat} {Q : Int → yM → Prop} {M : yM} {x1 : Int} {x2 : Int} (k : XW kX9_canFuse d (some .boolean) (wQi Q) 15 [some (.inr (.inr 1)), some (.inl x1), some (.inl x2)] [.inl 1] M) : XW kX9_canFuse d (some .boolean) (wQi Q) 10 [some (.inr (.inr 1)), some (.inl x1), some (.inl x2)] [] M := by
  refine x_iconst 1 rfl (by decide) ?_
  exact x_goto rfl k
theorem uX9_canFuse_14 {d : Nat} {Q : Int → yM → Prop} {M : yM} {x1 : Int} {x2 : Int} (k : XW kX9_canFuse d (some .boolean) (wQi Q) 15 [some (.inr (.inr 1)), some (.inl x1), some (.inl x2)] [.inl 0] M) : XW kX9_canFuse d (some .boolean) (wQi Q) 14 [some (.inr (.inr 1)), some (.inl x1), some (.inl x2)] [] M := by
  refine x_iconst 0 rfl (by decide) ?_
  exact k
theorem uX9_canFuse_15 {d : Nat} {Q : Int → yM → Prop} {M : yM} {x1 : Int} {x2 : Int} {s0 : Int} (h1 : 0 ≤ x2 ∧ x2 < 8) (h2 : -2147483648 ≤ x2 ∧ x2 < 2147483648) (kt : (ld M 2 x2) ≠ x2 → XW kX9_canFuse d (some .boolean) (wQi Q) 29 [some (.inr (.inr 1)), some (.inl x1), some (.inl x2)] [.inl s0] M) (kf : (ld M 2 x2) = x2 → XW kX9_canFuse d (some .boolean) (wQi Q) 25 [some (.inr (.inr 1)), some (.inl x1), some (.inl x2)] [.inl s0] M) : XW kX9_canFuse d (some .boolean) (wQi Q) 15 [some (.inr (.inr 1)), some (.inl x1), some (.inl x2)] [.inl s0] M := by
  refine x_aload_n rfl rfl ?_
  refine x_getR rfl sh1 rfl ?_
  refine x_iload_n rfl rfl ?_
  refine x_iaload rfl ⟨sh2, Nat.le_of_ble_eq_true rfl⟩ h1 ?_
  refine x_iload_n rfl rfl ?_
  exact x_icmpne rfl (rng_ld _ _ _) h2 kt kf
theorem uX9_canFuse_25 {d : Nat} {Q : Int → yM → Prop} {M : yM} {x1 : Int} {x2 : Int} {s0 : Int} (k : XW kX9_canFuse d (some .boolean) (wQi Q) 30 [some (.inr (.inr 1)), some (.inl x1), some (.inl x2)] [.inl 1, .inl s0] M) : XW kX9_canFuse d (some .boolean) (wQi Q) 25 [some (.inr (.inr 1)), some (.inl x1), some (.inl x2)] [.inl s0] M := by
  refine x_iconst 1 rfl (by decide) ?_
  exact x_goto rfl k
theorem uX9_canFuse_29 {d : Nat} {Q : Int → yM → Prop} {M : yM} {x1 : Int} {x2 : Int} {s0 : Int} (k : XW kX9_canFuse d (some .boolean) (wQi Q) 30 [some (.inr (.inr 1)), some (.inl x1), some (.inl x2)] [.inl 0, .inl s0] M) : XW kX9_canFuse d (some .boolean) (wQi Q) 29 [some (.inr (.inr 1)), some (.inl x1), some (.inl x2)] [.inl s0] M := by
  refine x_iconst 0 rfl (by decide) ?_
  exact k
theorem uX9_canFuse_30 {d : Nat} {Q : Int → yM → Prop} {M : yM} {x1 : Int} {x2 : Int} {s0 : Int} {s1 : Int} (h1 : -2147483648 ≤ s1 ∧ s1 < 2147483648) (h2 : -2147483648 ≤ s0 ∧ s0 < 2147483648) (kt : s1 ≠ s0 → XW kX9_canFuse d (some .boolean) (wQi Q) 47 [some (.inr (.inr 1)), some (.inl x1), some (.inl x2)] [] M) (kf : s1 = s0 → XW kX9_canFuse d (some .boolean) (wQi Q) 33 [some (.inr (.inr 1)), some (.inl x1), some (.inl x2)] [] M) : XW kX9_canFuse d (some .boolean) (wQi Q) 30 [some (.inr (.inr 1)), some (.inl x1), some (.inl x2)] [.inl s0, .inl s1] M := by
  exact x_icmpne rfl h1 h2 kt kf
theorem uX9_canFuse_33 {d : Nat} {Q : Int → yM → Prop} {M : yM} {x1 : Int} {x2 : Int} (h1 : 0 ≤ x1 ∧ x1 < 8) (h2 : -2147483648 ≤ x2 ∧ x2 < 2147483648) (kt : (ld M 2 x1) = x2 → XW kX9_canFuse d (some .boolean) (wQi Q) 47 [some (.inr (.inr 1)), some (.inl x1), some (.inl x2)] [] M) (kf : (ld M 2 x1) ≠ x2 → XW kX9_canFuse d (some .boolean) (wQi Q) 43 [some (.inr (.inr 1)), some (.inl x1), some (.inl x2)] [] M) : XW kX9_canFuse d (some .boolean) (wQi Q) 33 [some (.inr (.inr 1)), some (.inl x1), some (.inl x2)] [] M := by
  refine x_aload_n rfl rfl ?_
  refine x_getR rfl sh1 rfl ?_
  refine x_iload_n rfl rfl ?_
  refine x_iaload rfl ⟨sh2, Nat.le_of_ble_eq_true rfl⟩ h1 ?_
  refine x_iload_n rfl rfl ?_
  exact x_icmpeq rfl (rng_ld _ _ _) h2 kt kf
theorem uX9_canFuse_43 {d : Nat} {Q : Int → yM → Prop} {M : yM} {x1 : Int} {x2 : Int} (k : XW kX9_canFuse d (some .boolean) (wQi Q) 48 [some (.inr (.inr 1)), some (.inl x1), some (.inl x2)] [.inl 1] M) : XW kX9_canFuse d (some .boolean) (wQi Q) 43 [some (.inr (.inr 1)), some (.inl x1), some (.inl x2)] [] M := by
  refine x_iconst 1 rfl (by decide) ?_
  exact x_goto rfl k
theorem uX9_canFuse_47 {d : Nat} {Q : Int → yM → Prop} {M : yM} {x1 : Int} {x2 : Int} (k : XW kX9_canFuse d (some .boolean) (wQi Q) 48 [some (.inr (.inr 1)), some (.inl x1), some (.inl x2)] [.inl 0] M) : XW kX9_canFuse d (some .boolean) (wQi Q) 47 [some (.inr (.inr 1)), some (.inl x1), some (.inl x2)] [] M := by
  refine x_iconst 0 rfl (by decide) ?_
  exact k
theorem uX9_canFuse_48 {d : Nat} {Q : Int → yM → Prop} {M : yM} {x1 : Int} {x2 : Int} {s0 : Int} (h1 : s0 = 0 ∨ s0 = 1) (k : Q s0 M) : XW kX9_canFuse d (some .boolean) (wQi Q) 48 [some (.inr (.inr 1)), some (.inl x1), some (.inl x2)] [.inl s0] M := by
  exact x_zreturn rfl h1 k
theorem eX9_becomeFused {d : Nat} {Q : yM → Prop} {M : yM} {x2 : Int} {x3 : Int}  (h : XW kX9_becomeFused d none (wQv Q) 0 [some (.inr (.inr 1)), some (.inr (.inr 13)), some (.inl x2), some (.inl x3), none, none, none, none] [] M) : XCv d 76 [.inr (.inr 1), .inr (.inr 13), .inl x2, .inl x3] M Q :=
  XC.ofW (Mm := (yX9_becomeFused, cX9_becomeFused, 8, none, 10, kX9_becomeFused)) rfl (rcv_ok sh1) rfl rfl h
theorem uX9_becomeFused_0 {d : Nat} {Q : yM → Prop} {M : yM} {x2 : Int} {x3 : Int} (h1 : -2147483648 ≤ x2 ∧ x2 < 2147483648) (h2 : -2147483648 ≤ x3 ∧ x3 < 2147483648) (h3 : 0 ≤ x2 ∧ x2 < 8) (h4 : 0 ≤ x3 ∧ x3 < 8) (k : ∀ M', M' = (put M 1 0 0) → XW kX9_becomeFused d none (wQv Q) 29 [some (.inr (.inr 1)), some (.inr (.inr 13)), some (.inl x2), some (.inl x3), some (.inl (if x2 < x3 then x3 else x2)), some (.inl (if (ld M 14 x2) < (ld M 14 x3) then (ld M 14 x3) else (ld M 14 x2))), none, none] [] M') : XW kX9_becomeFused d none (wQv Q) 0 [some (.inr (.inr 1)), some (.inr (.inr 13)), some (.inl x2), some (.inl x3), none, none, none, none] [] M := by
  refine x_iload_n rfl rfl ?_
  refine x_iload_n rfl rfl ?_
  refine x_max rfl h1 h2 (Nat.le_of_ble_eq_true rfl) ?_
  refine x_istore rfl (Nat.le_of_ble_eq_true rfl) rfl ?_
  refine x_aload_n rfl rfl ?_
  refine x_getR rfl sh13 rfl ?_
  refine x_iload_n rfl rfl ?_
  refine x_iaload rfl ⟨sh14, Nat.le_of_ble_eq_true rfl⟩ h3 ?_
  refine x_aload_n rfl rfl ?_
  refine x_getR rfl sh13 rfl ?_
  refine x_iload_n rfl rfl ?_
  refine x_iaload rfl ⟨sh14, Nat.le_of_ble_eq_true rfl⟩ h4 ?_
  refine x_max rfl (rng_ld _ _ _) (rng_ld _ _ _) (Nat.le_of_ble_eq_true rfl) ?_
  refine x_istore rfl (Nat.le_of_ble_eq_true rfl) rfl ?_
  refine x_aload_n rfl rfl ?_
  refine x_iconst 0 rfl (by decide) ?_
  refine x_putI rfl rfl sh1 rfl ?_
  exact k _ rfl
theorem uX9_becomeFused_29 {d : Nat} {Q : yM → Prop} {M : yM} {x2 : Int} {x3 : Int} {x4 : Int} {x5 : Int} (k : XW kX9_becomeFused d none (wQv Q) 32 [some (.inr (.inr 1)), some (.inr (.inr 13)), some (.inl x2), some (.inl x3), some (.inl x4), some (.inl x5), some (.inl 0), none] [] M) : XW kX9_becomeFused d none (wQv Q) 29 [some (.inr (.inr 1)), some (.inr (.inr 13)), some (.inl x2), some (.inl x3), some (.inl x4), some (.inl x5), none, none] [] M := by
  refine x_iconst 0 rfl (by decide) ?_
  refine x_istore rfl (Nat.le_of_ble_eq_true rfl) rfl ?_
  exact k
theorem uX9_becomeFused_32 {d : Nat} {Q : yM → Prop} {M : yM} {x2 : Int} {x3 : Int} {x4 : Int} {x5 : Int} {x6 : Int} (h1 : -2147483648 ≤ x6 ∧ x6 < 2147483648) (kt : x6 ≥ (ld M 13 0) → XW kX9_becomeFused d none (wQv Q) 82 [some (.inr (.inr 1)), some (.inr (.inr 13)), some (.inl x2), some (.inl x3), some (.inl x4), some (.inl x5), some (.inl x6), none] [] M) (kf : x6 < (ld M 13 0) → XW kX9_becomeFused d none (wQv Q) 41 [some (.inr (.inr 1)), some (.inr (.inr 13)), some (.inl x2), some (.inl x3), some (.inl x4), some (.inl x5), some (.inl x6), none] [] M) : XW kX9_becomeFused d none (wQv Q) 32 [some (.inr (.inr 1)), some (.inr (.inr 13)), some (.inl x2), some (.inl x3), some (.inl x4), some (.inl x5), some (.inl x6), none] [] M := by
  refine x_iload rfl rfl ?_
  refine x_aload_n rfl rfl ?_
  refine x_getI rfl sh13 rfl ?_
  exact x_icmpge rfl h1 (rng_ld _ _ _) kt kf
theorem uX9_becomeFused_41 {d : Nat} {Q : yM → Prop} {M : yM} {x2 : Int} {x3 : Int} {x4 : Int} {x5 : Int} {x6 : Int} (h1 : -2147483648 ≤ x6 ∧ x6 < 2147483648) (h2 : -2147483648 ≤ x4 ∧ x4 < 2147483648) (kt : x6 = x4 → XW kX9_becomeFused d none (wQv Q) 76 [some (.inr (.inr 1)), some (.inr (.inr 13)), some (.inl x2), some (.inl x3), some (.inl x4), some (.inl x5), some (.inl x6), none] [] M) (kf : x6 ≠ x4 → XW kX9_becomeFused d none (wQv Q) 48 [some (.inr (.inr 1)), some (.inr (.inr 13)), some (.inl x2), some (.inl x3), some (.inl x4), some (.inl x5), some (.inl x6), none] [] M) : XW kX9_becomeFused d none (wQv Q) 41 [some (.inr (.inr 1)), some (.inr (.inr 13)), some (.inl x2), some (.inl x3), some (.inl x4), some (.inl x5), some (.inl x6), none] [] M := by
  refine x_iload rfl rfl ?_
  refine x_iload rfl rfl ?_
  exact x_icmpeq rfl h1 h2 kt kf
theorem uX9_becomeFused_48 {d : Nat} {Q : yM → Prop} {M : yM} {x2 : Int} {x3 : Int} {x4 : Int} {x5 : Int} {x6 : Int} (h1 : -2147483648 ≤ x6 ∧ x6 < 2147483648) (h2 : -2147483648 ≤ x5 ∧ x5 < 2147483648) (kt : x6 = x5 → XW kX9_becomeFused d none (wQv Q) 76 [some (.inr (.inr 1)), some (.inr (.inr 13)), some (.inl x2), some (.inl x3), some (.inl x4), some (.inl x5), some (.inl x6), none] [] M) (kf : x6 ≠ x5 → XW kX9_becomeFused d none (wQv Q) 55 [some (.inr (.inr 1)), some (.inr (.inr 13)), some (.inl x2), some (.inl x3), some (.inl x4), some (.inl x5), some (.inl x6), none] [] M) : XW kX9_becomeFused d none (wQv Q) 48 [some (.inr (.inr 1)), some (.inr (.inr 13)), some (.inl x2), some (.inl x3), some (.inl x4), some (.inl x5), some (.inl x6), none] [] M := by
  refine x_iload rfl rfl ?_
  refine x_iload rfl rfl ?_
  exact x_icmpeq rfl h1 h2 kt kf
theorem uX9_becomeFused_55 {d : Nat} {Q : yM → Prop} {M : yM} {x2 : Int} {x3 : Int} {x4 : Int} {x5 : Int} {x6 : Int} (h1 : 0 ≤ x6 ∧ x6 < 8) (k : ∀ M', M' = (put M 6 x6 (ld M 1 0)) → XW kX9_becomeFused d none (wQv Q) 66 [some (.inr (.inr 1)), some (.inr (.inr 13)), some (.inl x2), some (.inl x3), some (.inl x4), some (.inl x5), some (.inl x6), none] [] M') : XW kX9_becomeFused d none (wQv Q) 55 [some (.inr (.inr 1)), some (.inr (.inr 13)), some (.inl x2), some (.inl x3), some (.inl x4), some (.inl x5), some (.inl x6), none] [] M := by
  refine x_aload_n rfl rfl ?_
  refine x_getR rfl sh1 rfl ?_
  refine x_iload rfl rfl ?_
  refine x_aload_n rfl rfl ?_
  refine x_getI rfl sh1 rfl ?_
  refine x_iastore rfl ⟨sh6, Nat.le_of_ble_eq_true rfl⟩ h1  ?_
  exact k _ rfl
theorem uX9_becomeFused_66 {d : Nat} {Q : yM → Prop} {M : yM} {x2 : Int} {x3 : Int} {x4 : Int} {x5 : Int} {x6 : Int} (k : ∀ M', M' = (put M 1 0 ((ld M 1 0) + 1)) → XW kX9_becomeFused d none (wQv Q) 76 [some (.inr (.inr 1)), some (.inr (.inr 13)), some (.inl x2), some (.inl x3), some (.inl x4), some (.inl x5), some (.inl x6), none] [] M') : XW kX9_becomeFused d none (wQv Q) 66 [some (.inr (.inr 1)), some (.inr (.inr 13)), some (.inl x2), some (.inl x3), some (.inl x4), some (.inl x5), some (.inl x6), none] [] M := by
  refine x_aload_n rfl rfl ?_
  refine x_dupa rfl ?_
  refine x_getI rfl sh1 rfl ?_
  refine x_iconst 1 rfl (by decide) ?_
  refine x_iadd rfl ?_
  refine x_putI rfl rfl sh1 rfl ?_
  exact k _ rfl
theorem uX9_becomeFused_76 {d : Nat} {Q : yM → Prop} {M : yM} {x2 : Int} {x3 : Int} {x4 : Int} {x5 : Int} {x6 : Int} (k : XW kX9_becomeFused d none (wQv Q) 32 [some (.inr (.inr 1)), some (.inr (.inr 13)), some (.inl x2), some (.inl x3), some (.inl x4), some (.inl x5), some (.inl (x6 + 1)), none] [] M) : XW kX9_becomeFused d none (wQv Q) 76 [some (.inr (.inr 1)), some (.inr (.inr 13)), some (.inl x2), some (.inl x3), some (.inl x4), some (.inl x5), some (.inl x6), none] [] M := by
  refine x_iinc 1 rfl (by decide) rfl rfl ?_
  exact x_goto rfl k
theorem uX9_becomeFused_82 {d : Nat} {Q : yM → Prop} {M : yM} {x2 : Int} {x3 : Int} {x4 : Int} {x5 : Int} {x6 : Int} (h1 : -2147483648 ≤ x2 ∧ x2 < 2147483648) (h2 : -2147483648 ≤ x3 ∧ x3 < 2147483648) (h3 : 0 ≤ (if x3 < x2 then x3 else x2) ∧ (if x3 < x2 then x3 else x2) < 8) (h4 : 0 ≤ x4 ∧ x4 < 8) (k : ∀ M', M' = (put M 6 x4 (ld M 6 (if x3 < x2 then x3 else x2))) → XW kX9_becomeFused d none (wQv Q) 99 [some (.inr (.inr 1)), some (.inr (.inr 13)), some (.inl x2), some (.inl x3), some (.inl x4), some (.inl x5), some (.inl x6), none] [] M') : XW kX9_becomeFused d none (wQv Q) 82 [some (.inr (.inr 1)), some (.inr (.inr 13)), some (.inl x2), some (.inl x3), some (.inl x4), some (.inl x5), some (.inl x6), none] [] M := by
  refine x_aload_n rfl rfl ?_
  refine x_getR rfl sh1 rfl ?_
  refine x_iload rfl rfl ?_
  refine x_aload_n rfl rfl ?_
  refine x_getR rfl sh1 rfl ?_
  refine x_iload_n rfl rfl ?_
  refine x_iload_n rfl rfl ?_
  refine x_min rfl h1 h2 (Nat.le_of_ble_eq_true rfl) ?_
  refine x_iaload rfl ⟨sh6, Nat.le_of_ble_eq_true rfl⟩ h3 ?_
  refine x_iastore rfl ⟨sh6, Nat.le_of_ble_eq_true rfl⟩ h4  ?_
  exact k _ rfl
theorem uX9_becomeFused_99 {d : Nat} {Q : yM → Prop} {M : yM} {x2 : Int} {x3 : Int} {x4 : Int} {x5 : Int} {x6 : Int} (h1 : 0 ≤ x2 ∧ x2 < 8) (h2 : 0 ≤ x3 ∧ x3 < 8) (h3 : 0 ≤ (if (ld M 14 x3) < (ld M 14 x2) then (ld M 14 x3) else (ld M 14 x2)) ∧ (if (ld M 14 x3) < (ld M 14 x2) then (ld M 14 x3) else (ld M 14 x2)) < 8) (h4 : 0 ≤ x5 ∧ x5 < 8) (k : ∀ M', M' = (put M 6 x5 (ld M 6 (if (ld M 14 x3) < (ld M 14 x2) then (ld M 14 x3) else (ld M 14 x2)))) → XW kX9_becomeFused d none (wQv Q) 126 [some (.inr (.inr 1)), some (.inr (.inr 13)), some (.inl x2), some (.inl x3), some (.inl x4), some (.inl x5), some (.inl x6), none] [] M') : XW kX9_becomeFused d none (wQv Q) 99 [some (.inr (.inr 1)), some (.inr (.inr 13)), some (.inl x2), some (.inl x3), some (.inl x4), some (.inl x5), some (.inl x6), none] [] M := by
  refine x_aload_n rfl rfl ?_
  refine x_getR rfl sh1 rfl ?_
  refine x_iload rfl rfl ?_
  refine x_aload_n rfl rfl ?_
  refine x_getR rfl sh1 rfl ?_
  refine x_aload_n rfl rfl ?_
  refine x_getR rfl sh13 rfl ?_
  refine x_iload_n rfl rfl ?_
  refine x_iaload rfl ⟨sh14, Nat.le_of_ble_eq_true rfl⟩ h1 ?_
  refine x_aload_n rfl rfl ?_
  refine x_getR rfl sh13 rfl ?_
  refine x_iload_n rfl rfl ?_
  refine x_iaload rfl ⟨sh14, Nat.le_of_ble_eq_true rfl⟩ h2 ?_
  refine x_min rfl (rng_ld _ _ _) (rng_ld _ _ _) (Nat.le_of_ble_eq_true rfl) ?_
  refine x_iaload rfl ⟨sh6, Nat.le_of_ble_eq_true rfl⟩ h3 ?_
  refine x_iastore rfl ⟨sh6, Nat.le_of_ble_eq_true rfl⟩ h4  ?_
  exact k _ rfl
theorem uX9_becomeFused_126 {d : Nat} {Q : yM → Prop} {M : yM} {x2 : Int} {x3 : Int} {x4 : Int} {x5 : Int} {x6 : Int} (k : XCv d 181 [.inr (.inr 3), .inl 0] M (fun M' => XW kX9_becomeFused (d + 1) none (wQv Q) 134 [some (.inr (.inr 1)), some (.inr (.inr 13)), some (.inl x2), some (.inl x3), some (.inl x4), some (.inl x5), some (.inl x6), none] [] M')) : XW kX9_becomeFused (d + 1) none (wQv Q) 126 [some (.inr (.inr 1)), some (.inr (.inr 13)), some (.inl x2), some (.inl x3), some (.inl x4), some (.inl x5), some (.inl x6), none] [] M := by
  refine x_aload_n rfl rfl ?_
  refine x_getR rfl sh1 rfl ?_
  refine x_iconst 0 rfl (by decide) ?_
  exact x_callv (args := [.inr (.inr 3), .inl 0]) rfl rfl rfl k
theorem uX9_becomeFused_134 {d : Nat} {Q : yM → Prop} {M : yM} {x2 : Int} {x3 : Int} {x4 : Int} {x5 : Int} {x6 : Int} (k : XW kX9_becomeFused d none (wQv Q) 137 [some (.inr (.inr 1)), some (.inr (.inr 13)), some (.inl x2), some (.inl x3), some (.inl x4), some (.inl x5), some (.inl 0), none] [] M) : XW kX9_becomeFused d none (wQv Q) 134 [some (.inr (.inr 1)), some (.inr (.inr 13)), some (.inl x2), some (.inl x3), some (.inl x4), some (.inl x5), some (.inl x6), none] [] M := by
  refine x_iconst 0 rfl (by decide) ?_
  refine x_istore rfl (Nat.le_of_ble_eq_true rfl) rfl ?_
  exact k
theorem uX9_becomeFused_137 {d : Nat} {Q : yM → Prop} {M : yM} {x2 : Int} {x3 : Int} {x4 : Int} {x5 : Int} {x6 : Int} {wx7 : Option yV} (h1 : -2147483648 ≤ x6 ∧ x6 < 2147483648) (kt : x6 ≥ (ld M 13 0) → XW kX9_becomeFused d none (wQv Q) 237 [some (.inr (.inr 1)), some (.inr (.inr 13)), some (.inl x2), some (.inl x3), some (.inl x4), some (.inl x5), some (.inl x6), wx7] [] M) (kf : x6 < (ld M 13 0) → XW kX9_becomeFused d none (wQv Q) 146 [some (.inr (.inr 1)), some (.inr (.inr 13)), some (.inl x2), some (.inl x3), some (.inl x4), some (.inl x5), some (.inl x6), wx7] [] M) : XW kX9_becomeFused d none (wQv Q) 137 [some (.inr (.inr 1)), some (.inr (.inr 13)), some (.inl x2), some (.inl x3), some (.inl x4), some (.inl x5), some (.inl x6), wx7] [] M := by
  refine x_iload rfl rfl ?_
  refine x_aload_n rfl rfl ?_
  refine x_getI rfl sh13 rfl ?_
  exact x_icmpge rfl h1 (rng_ld _ _ _) kt kf
theorem uX9_becomeFused_146 {d : Nat} {Q : yM → Prop} {M : yM} {x2 : Int} {x3 : Int} {x4 : Int} {x5 : Int} {x6 : Int} {wx7 : Option yV} (h1 : 0 ≤ x6 ∧ x6 < 8) (h2 : 0 ≤ x6 ∧ x6 < 8) (h3 : 0 ≤ (ld M 14 x6) ∧ (ld M 14 x6) < 8) (h4 : 0 ≤ (ld M 6 x6) ∧ (ld M 6 x6) < 8) (k : ∀ M', M' = (put M 2 (ld M 6 x6) (ld M 6 (ld M 14 x6))) → XW kX9_becomeFused d none (wQv Q) 170 [some (.inr (.inr 1)), some (.inr (.inr 13)), some (.inl x2), some (.inl x3), some (.inl x4), some (.inl x5), some (.inl x6), wx7] [] M') : XW kX9_becomeFused d none (wQv Q) 146 [some (.inr (.inr 1)), some (.inr (.inr 13)), some (.inl x2), some (.inl x3), some (.inl x4), some (.inl x5), some (.inl x6), wx7] [] M := by
  refine x_aload_n rfl rfl ?_
  refine x_getR rfl sh1 rfl ?_
  refine x_aload_n rfl rfl ?_
  refine x_getR rfl sh1 rfl ?_
  refine x_iload rfl rfl ?_
  refine x_iaload rfl ⟨sh6, Nat.le_of_ble_eq_true rfl⟩ h1 ?_
  refine x_aload_n rfl rfl ?_
  refine x_getR rfl sh1 rfl ?_
  refine x_aload_n rfl rfl ?_
  refine x_getR rfl sh13 rfl ?_
  refine x_iload rfl rfl ?_
  refine x_iaload rfl ⟨sh14, Nat.le_of_ble_eq_true rfl⟩ h2 ?_
  refine x_iaload rfl ⟨sh6, Nat.le_of_ble_eq_true rfl⟩ h3 ?_
  refine x_iastore rfl ⟨sh2, Nat.le_of_ble_eq_true rfl⟩ h4  ?_
  exact k _ rfl
theorem uX9_becomeFused_170 {d : Nat} {Q : yM → Prop} {M : yM} {x2 : Int} {x3 : Int} {x4 : Int} {x5 : Int} {x6 : Int} {wx7 : Option yV} (k : XW kX9_becomeFused d none (wQv Q) 173 [some (.inr (.inr 1)), some (.inr (.inr 13)), some (.inl x2), some (.inl x3), some (.inl x4), some (.inl x5), some (.inl x6), some (.inl 0)] [] M) : XW kX9_becomeFused d none (wQv Q) 170 [some (.inr (.inr 1)), some (.inr (.inr 13)), some (.inl x2), some (.inl x3), some (.inl x4), some (.inl x5), some (.inl x6), wx7] [] M := by
  refine x_iconst 0 rfl (by decide) ?_
  refine x_istore rfl (Nat.le_of_ble_eq_true rfl) rfl ?_
  exact k
theorem uX9_becomeFused_173 {d : Nat} {Q : yM → Prop} {M : yM} {x2 : Int} {x3 : Int} {x4 : Int} {x5 : Int} {x6 : Int} {x7 : Int} (h1 : -2147483648 ≤ x7 ∧ x7 < 2147483648) (kt : x7 ≥ (ld M 13 0) → XW kX9_becomeFused d none (wQv Q) 231 [some (.inr (.inr 1)), some (.inr (.inr 13)), some (.inl x2), some (.inl x3), some (.inl x4), some (.inl x5), some (.inl x6), some (.inl x7)] [] M) (kf : x7 < (ld M 13 0) → XW kX9_becomeFused d none (wQv Q) 182 [some (.inr (.inr 1)), some (.inr (.inr 13)), some (.inl x2), some (.inl x3), some (.inl x4), some (.inl x5), some (.inl x6), some (.inl x7)] [] M) : XW kX9_becomeFused d none (wQv Q) 173 [some (.inr (.inr 1)), some (.inr (.inr 13)), some (.inl x2), some (.inl x3), some (.inl x4), some (.inl x5), some (.inl x6), some (.inl x7)] [] M := by
  refine x_iload rfl rfl ?_
  refine x_aload_n rfl rfl ?_
  refine x_getI rfl sh13 rfl ?_
  exact x_icmpge rfl h1 (rng_ld _ _ _) kt kf
theorem uX9_becomeFused_182 {d : Nat} {Q : yM → Prop} {M : yM} {x2 : Int} {x3 : Int} {x4 : Int} {x5 : Int} {x6 : Int} {x7 : Int} (h1 : 0 ≤ x6 ∧ x6 < 8) (h2 : 0 ≤ x7 ∧ x7 < 8) (h3 : 0 ≤ ((8 * (ld M 6 x6)) + (ld M 6 x7)) ∧ ((8 * (ld M 6 x6)) + (ld M 6 x7)) < 64) (h4 : 0 ≤ ((8 * x6) + x7) ∧ ((8 * x6) + x7) < 64) (k : XCi d 77 [.inr (.inr 1), .inl (ld M 15 ((8 * x6) + x7))] M (fun v M' => XW kX9_becomeFused (d + 1) none (wQv Q) 223 [some (.inr (.inr 1)), some (.inr (.inr 13)), some (.inl x2), some (.inl x3), some (.inl x4), some (.inl x5), some (.inl x6), some (.inl x7)] [.inl v, .inl (ld M 3 ((8 * (ld M 6 x6)) + (ld M 6 x7))), .inl ((8 * (ld M 6 x6)) + (ld M 6 x7)), .inr (.inr 3)] M')) : XW kX9_becomeFused (d + 1) none (wQv Q) 182 [some (.inr (.inr 1)), some (.inr (.inr 13)), some (.inl x2), some (.inl x3), some (.inl x4), some (.inl x5), some (.inl x6), some (.inl x7)] [] M := by
  refine x_aload_n rfl rfl ?_
  refine x_getR rfl sh1 rfl ?_
  refine x_bipush 8 rfl (by decide) ?_
  refine x_aload_n rfl rfl ?_
  refine x_getR rfl sh1 rfl ?_
  refine x_iload rfl rfl ?_
  refine x_iaload rfl ⟨sh6, Nat.le_of_ble_eq_true rfl⟩ h1 ?_
  refine x_imul rfl ?_
  refine x_aload_n rfl rfl ?_
  refine x_getR rfl sh1 rfl ?_
  refine x_iload rfl rfl ?_
  refine x_iaload rfl ⟨sh6, Nat.le_of_ble_eq_true rfl⟩ h2 ?_
  refine x_iadd rfl ?_
  refine x_dup2 rfl ?_
  refine x_iaload rfl ⟨sh3, Nat.le_of_ble_eq_true rfl⟩ h3 ?_
  refine x_aload_n rfl rfl ?_
  refine x_aload_n rfl rfl ?_
  refine x_getR rfl sh13 rfl ?_
  refine x_bipush 8 rfl (by decide) ?_
  refine x_iload rfl rfl ?_
  refine x_imul rfl ?_
  refine x_iload rfl rfl ?_
  refine x_iadd rfl ?_
  refine x_iaload rfl ⟨sh15, Nat.le_of_ble_eq_true rfl⟩ h4 ?_
  exact x_calli (args := [.inr (.inr 1), .inl (ld M 15 ((8 * x6) + x7))]) rfl rfl rfl k
theorem uX9_becomeFused_223 {d : Nat} {Q : yM → Prop} {M : yM} {x2 : Int} {x3 : Int} {x4 : Int} {x5 : Int} {x6 : Int} {x7 : Int} {s0 : Int} {s1 : Int} {s2 : Int} (h1 : 0 ≤ s2 ∧ s2 < 64) (k : ∀ M', M' = (put M 3 s2 (yor s1 s0)) → XW kX9_becomeFused d none (wQv Q) 225 [some (.inr (.inr 1)), some (.inr (.inr 13)), some (.inl x2), some (.inl x3), some (.inl x4), some (.inl x5), some (.inl x6), some (.inl x7)] [] M') : XW kX9_becomeFused d none (wQv Q) 223 [some (.inr (.inr 1)), some (.inr (.inr 13)), some (.inl x2), some (.inl x3), some (.inl x4), some (.inl x5), some (.inl x6), some (.inl x7)] [.inl s0, .inl s1, .inl s2, .inr (.inr 3)] M := by
  refine x_ior rfl ?_
  refine x_iastore rfl ⟨sh3, Nat.le_of_ble_eq_true rfl⟩ h1  ?_
  exact k _ rfl
theorem uX9_becomeFused_225 {d : Nat} {Q : yM → Prop} {M : yM} {x2 : Int} {x3 : Int} {x4 : Int} {x5 : Int} {x6 : Int} {x7 : Int} (k : XW kX9_becomeFused d none (wQv Q) 173 [some (.inr (.inr 1)), some (.inr (.inr 13)), some (.inl x2), some (.inl x3), some (.inl x4), some (.inl x5), some (.inl x6), some (.inl (x7 + 1))] [] M) : XW kX9_becomeFused d none (wQv Q) 225 [some (.inr (.inr 1)), some (.inr (.inr 13)), some (.inl x2), some (.inl x3), some (.inl x4), some (.inl x5), some (.inl x6), some (.inl x7)] [] M := by
  refine x_iinc 1 rfl (by decide) rfl rfl ?_
  exact x_goto rfl k
theorem uX9_becomeFused_231 {d : Nat} {Q : yM → Prop} {M : yM} {x2 : Int} {x3 : Int} {x4 : Int} {x5 : Int} {x6 : Int} {x7 : Int} (k : XW kX9_becomeFused d none (wQv Q) 137 [some (.inr (.inr 1)), some (.inr (.inr 13)), some (.inl x2), some (.inl x3), some (.inl x4), some (.inl x5), some (.inl (x6 + 1)), some (.inl x7)] [] M) : XW kX9_becomeFused d none (wQv Q) 231 [some (.inr (.inr 1)), some (.inr (.inr 13)), some (.inl x2), some (.inl x3), some (.inl x4), some (.inl x5), some (.inl x6), some (.inl x7)] [] M := by
  refine x_iinc 1 rfl (by decide) rfl rfl ?_
  exact x_goto rfl k
theorem uX9_becomeFused_237 {d : Nat} {Q : yM → Prop} {M : yM} {x2 : Int} {x3 : Int} {x4 : Int} {x5 : Int} {x6 : Int} {wx7 : Option yV} (k : XCv d 68 [.inr (.inr 1)] M (fun M' => XW kX9_becomeFused (d + 1) none (wQv Q) 241 [some (.inr (.inr 1)), some (.inr (.inr 13)), some (.inl x2), some (.inl x3), some (.inl x4), some (.inl x5), some (.inl x6), wx7] [] M')) : XW kX9_becomeFused (d + 1) none (wQv Q) 237 [some (.inr (.inr 1)), some (.inr (.inr 13)), some (.inl x2), some (.inl x3), some (.inl x4), some (.inl x5), some (.inl x6), wx7] [] M := by
  refine x_aload_n rfl rfl ?_
  exact x_callv (args := [.inr (.inr 1)]) rfl rfl rfl k
theorem uX9_becomeFused_241 {d : Nat} {Q : yM → Prop} {M : yM} {x2 : Int} {x3 : Int} {x4 : Int} {x5 : Int} {x6 : Int} {wx7 : Option yV} (k : Q M) : XW kX9_becomeFused d none (wQv Q) 241 [some (.inr (.inr 1)), some (.inr (.inr 13)), some (.inl x2), some (.inl x3), some (.inl x4), some (.inl x5), some (.inl x6), wx7] [] M := by
  exact x_return rfl k
theorem eX9_renamed {d : Nat} {Q : Int → yM → Prop} {M : yM} {x1 : Int}  (h : XW kX9_renamed d (some .int) (wQi Q) 0 [some (.inr (.inr 1)), some (.inl x1), none, none] [] M) : XCi d 77 [.inr (.inr 1), .inl x1] M Q :=
  XC.ofW (Mm := (yX9_renamed, cX9_renamed, 4, (some .int), 10, kX9_renamed)) rfl (rcv_ok sh1) rfl rfl h
theorem uX9_renamed_0 {d : Nat} {Q : Int → yM → Prop} {M : yM} {x1 : Int} (k : XW kX9_renamed d (some .int) (wQi Q) 4 [some (.inr (.inr 1)), some (.inl x1), some (.inl 0), some (.inl 0)] [] M) : XW kX9_renamed d (some .int) (wQi Q) 0 [some (.inr (.inr 1)), some (.inl x1), none, none] [] M := by
  refine x_iconst 0 rfl (by decide) ?_
  refine x_istore_n rfl (Nat.le_of_ble_eq_true rfl) rfl ?_
  refine x_iconst 0 rfl (by decide) ?_
  refine x_istore_n rfl (Nat.le_of_ble_eq_true rfl) rfl ?_
  exact k
theorem uX9_renamed_4 {d : Nat} {Q : Int → yM → Prop} {M : yM} {x1 : Int} {x2 : Int} {x3 : Int} (h1 : -2147483648 ≤ x3 ∧ x3 < 2147483648) (kt : x3 ≥ 8 → XW kX9_renamed d (some .int) (wQi Q) 36 [some (.inr (.inr 1)), some (.inl x1), some (.inl x2), some (.inl x3)] [] M) (kf : x3 < 8 → XW kX9_renamed d (some .int) (wQi Q) 10 [some (.inr (.inr 1)), some (.inl x1), some (.inl x2), some (.inl x3)] [] M) : XW kX9_renamed d (some .int) (wQi Q) 4 [some (.inr (.inr 1)), some (.inl x1), some (.inl x2), some (.inl x3)] [] M := by
  refine x_iload_n rfl rfl ?_
  refine x_bipush 8 rfl (by decide) ?_
  exact x_icmpge rfl h1 (by decide) kt kf
theorem uX9_renamed_10 {d : Nat} {Q : Int → yM → Prop} {M : yM} {x1 : Int} {x2 : Int} {x3 : Int} (kt : (yand (yshr x1 x3) 1) ≠ 1 → XW kX9_renamed d (some .int) (wQi Q) 30 [some (.inr (.inr 1)), some (.inl x1), some (.inl x2), some (.inl x3)] [] M) (kf : (yand (yshr x1 x3) 1) = 1 → XW kX9_renamed d (some .int) (wQi Q) 19 [some (.inr (.inr 1)), some (.inl x1), some (.inl x2), some (.inl x3)] [] M) : XW kX9_renamed d (some .int) (wQi Q) 10 [some (.inr (.inr 1)), some (.inl x1), some (.inl x2), some (.inl x3)] [] M := by
  refine x_iload_n rfl rfl ?_
  refine x_iload_n rfl rfl ?_
  refine x_ishr rfl ?_
  refine x_iconst 1 rfl (by decide) ?_
  refine x_iand rfl ?_
  refine x_iconst 1 rfl (by decide) ?_
  exact x_icmpne rfl (rng_yand _ _) (by decide) kt kf
theorem uX9_renamed_19 {d : Nat} {Q : Int → yM → Prop} {M : yM} {x1 : Int} {x2 : Int} {x3 : Int} (h1 : 0 ≤ x3 ∧ x3 < 8) (k : XW kX9_renamed d (some .int) (wQi Q) 30 [some (.inr (.inr 1)), some (.inl x1), some (.inl (yor x2 (yshl 1 (ld M 6 x3)))), some (.inl x3)] [] M) : XW kX9_renamed d (some .int) (wQi Q) 19 [some (.inr (.inr 1)), some (.inl x1), some (.inl x2), some (.inl x3)] [] M := by
  refine x_iload_n rfl rfl ?_
  refine x_iconst 1 rfl (by decide) ?_
  refine x_aload_n rfl rfl ?_
  refine x_getR rfl sh1 rfl ?_
  refine x_iload_n rfl rfl ?_
  refine x_iaload rfl ⟨sh6, Nat.le_of_ble_eq_true rfl⟩ h1 ?_
  refine x_ishl rfl ?_
  refine x_ior rfl ?_
  refine x_istore_n rfl (Nat.le_of_ble_eq_true rfl) rfl ?_
  exact k
theorem uX9_renamed_30 {d : Nat} {Q : Int → yM → Prop} {M : yM} {x1 : Int} {x2 : Int} {x3 : Int} (k : XW kX9_renamed d (some .int) (wQi Q) 4 [some (.inr (.inr 1)), some (.inl x1), some (.inl x2), some (.inl (x3 + 1))] [] M) : XW kX9_renamed d (some .int) (wQi Q) 30 [some (.inr (.inr 1)), some (.inl x1), some (.inl x2), some (.inl x3)] [] M := by
  refine x_iinc 1 rfl (by decide) rfl rfl ?_
  exact x_goto rfl k
theorem uX9_renamed_36 {d : Nat} {Q : Int → yM → Prop} {M : yM} {x1 : Int} {x2 : Int} {x3 : Int} (k : Q x2 M) : XW kX9_renamed d (some .int) (wQi Q) 36 [some (.inr (.inr 1)), some (.inl x1), some (.inl x2), some (.inl x3)] [] M := by
  refine x_iload_n rfl rfl ?_
  exact x_ireturn rfl k
theorem eX9_becomeMadeOfTwo {d : Nat} {Q : yM → Prop} {M : yM}   (h : XW kX9_becomeMadeOfTwo d none (wQv Q) 0 [some (.inr (.inr 1)), some (.inr (.inr 13)), some (.inr (.inr 7)), none, none, none, none, none] [] M) : XCv d 78 [.inr (.inr 1), .inr (.inr 13), .inr (.inr 7)] M Q :=
  XC.ofW (Mm := (yX9_becomeMadeOfTwo, cX9_becomeMadeOfTwo, 8, none, 10, kX9_becomeMadeOfTwo)) rfl (rcv_ok sh1) rfl rfl h
theorem uX9_becomeMadeOfTwo_0 {d : Nat} {Q : yM → Prop} {M : yM}  (k : ∀ M', M' = (put M 1 0 ((ld M 13 0) * (ld M 7 0))) → XW kX9_becomeMadeOfTwo d none (wQv Q) 15 [some (.inr (.inr 1)), some (.inr (.inr 13)), some (.inr (.inr 7)), some (.inl (ld M 13 0)), none, none, none, none] [] M') : XW kX9_becomeMadeOfTwo d none (wQv Q) 0 [some (.inr (.inr 1)), some (.inr (.inr 13)), some (.inr (.inr 7)), none, none, none, none, none] [] M := by
  refine x_aload_n rfl rfl ?_
  refine x_getI rfl sh13 rfl ?_
  refine x_istore_n rfl (Nat.le_of_ble_eq_true rfl) rfl ?_
  refine x_aload_n rfl rfl ?_
  refine x_iload_n rfl rfl ?_
  refine x_aload_n rfl rfl ?_
  refine x_getI rfl sh7 rfl ?_
  refine x_imul rfl ?_
  refine x_putI rfl rfl sh1 rfl ?_
  exact k _ rfl
theorem uX9_becomeMadeOfTwo_15 {d : Nat} {Q : yM → Prop} {M : yM} {x3 : Int} (k : XCv d 181 [.inr (.inr 3), .inl 0] M (fun M' => XW kX9_becomeMadeOfTwo (d + 1) none (wQv Q) 23 [some (.inr (.inr 1)), some (.inr (.inr 13)), some (.inr (.inr 7)), some (.inl x3), none, none, none, none] [] M')) : XW kX9_becomeMadeOfTwo (d + 1) none (wQv Q) 15 [some (.inr (.inr 1)), some (.inr (.inr 13)), some (.inr (.inr 7)), some (.inl x3), none, none, none, none] [] M := by
  refine x_aload_n rfl rfl ?_
  refine x_getR rfl sh1 rfl ?_
  refine x_iconst 0 rfl (by decide) ?_
  exact x_callv (args := [.inr (.inr 3), .inl 0]) rfl rfl rfl k
theorem uX9_becomeMadeOfTwo_23 {d : Nat} {Q : yM → Prop} {M : yM} {x3 : Int} (k : XW kX9_becomeMadeOfTwo d none (wQv Q) 26 [some (.inr (.inr 1)), some (.inr (.inr 13)), some (.inr (.inr 7)), some (.inl x3), some (.inl 0), none, none, none] [] M) : XW kX9_becomeMadeOfTwo d none (wQv Q) 23 [some (.inr (.inr 1)), some (.inr (.inr 13)), some (.inr (.inr 7)), some (.inl x3), none, none, none, none] [] M := by
  refine x_iconst 0 rfl (by decide) ?_
  refine x_istore rfl (Nat.le_of_ble_eq_true rfl) rfl ?_
  exact k
theorem uX9_becomeMadeOfTwo_26 {d : Nat} {Q : yM → Prop} {M : yM} {x3 : Int} {x4 : Int} {wx5 : Option yV} {wx6 : Option yV} {wx7 : Option yV} (h1 : -2147483648 ≤ x4 ∧ x4 < 2147483648) (kt : x4 ≥ (ld M 7 0) → XW kX9_becomeMadeOfTwo d none (wQv Q) 171 [some (.inr (.inr 1)), some (.inr (.inr 13)), some (.inr (.inr 7)), some (.inl x3), some (.inl x4), wx5, wx6, wx7] [] M) (kf : x4 < (ld M 7 0) → XW kX9_becomeMadeOfTwo d none (wQv Q) 35 [some (.inr (.inr 1)), some (.inr (.inr 13)), some (.inr (.inr 7)), some (.inl x3), some (.inl x4), wx5, wx6, wx7] [] M) : XW kX9_becomeMadeOfTwo d none (wQv Q) 26 [some (.inr (.inr 1)), some (.inr (.inr 13)), some (.inr (.inr 7)), some (.inl x3), some (.inl x4), wx5, wx6, wx7] [] M := by
  refine x_iload rfl rfl ?_
  refine x_aload_n rfl rfl ?_
  refine x_getI rfl sh7 rfl ?_
  exact x_icmpge rfl h1 (rng_ld _ _ _) kt kf
theorem uX9_becomeMadeOfTwo_35 {d : Nat} {Q : yM → Prop} {M : yM} {x3 : Int} {x4 : Int} {wx5 : Option yV} {wx6 : Option yV} {wx7 : Option yV} (k : XW kX9_becomeMadeOfTwo d none (wQv Q) 38 [some (.inr (.inr 1)), some (.inr (.inr 13)), some (.inr (.inr 7)), some (.inl x3), some (.inl x4), some (.inl 0), wx6, wx7] [] M) : XW kX9_becomeMadeOfTwo d none (wQv Q) 35 [some (.inr (.inr 1)), some (.inr (.inr 13)), some (.inr (.inr 7)), some (.inl x3), some (.inl x4), wx5, wx6, wx7] [] M := by
  refine x_iconst 0 rfl (by decide) ?_
  refine x_istore rfl (Nat.le_of_ble_eq_true rfl) rfl ?_
  exact k
theorem uX9_becomeMadeOfTwo_38 {d : Nat} {Q : yM → Prop} {M : yM} {x3 : Int} {x4 : Int} {x5 : Int} {wx6 : Option yV} {wx7 : Option yV} (h1 : -2147483648 ≤ x5 ∧ x5 < 2147483648) (h2 : -2147483648 ≤ x3 ∧ x3 < 2147483648) (kt : x5 ≥ x3 → XW kX9_becomeMadeOfTwo d none (wQv Q) 165 [some (.inr (.inr 1)), some (.inr (.inr 13)), some (.inr (.inr 7)), some (.inl x3), some (.inl x4), some (.inl x5), wx6, wx7] [] M) (kf : x5 < x3 → XW kX9_becomeMadeOfTwo d none (wQv Q) 44 [some (.inr (.inr 1)), some (.inr (.inr 13)), some (.inr (.inr 7)), some (.inl x3), some (.inl x4), some (.inl x5), wx6, wx7] [] M) : XW kX9_becomeMadeOfTwo d none (wQv Q) 38 [some (.inr (.inr 1)), some (.inr (.inr 13)), some (.inr (.inr 7)), some (.inl x3), some (.inl x4), some (.inl x5), wx6, wx7] [] M := by
  refine x_iload rfl rfl ?_
  refine x_iload_n rfl rfl ?_
  exact x_icmpge rfl h1 h2 kt kf
theorem uX9_becomeMadeOfTwo_44 {d : Nat} {Q : yM → Prop} {M : yM} {x3 : Int} {x4 : Int} {x5 : Int} {wx6 : Option yV} {wx7 : Option yV} (h1 : 0 ≤ x5 ∧ x5 < 8) (h2 : 0 ≤ x4 ∧ x4 < 8) (h3 : 0 ≤ (x5 + (x3 * x4)) ∧ (x5 + (x3 * x4)) < 8) (k : ∀ M', M' = (put M 2 (x5 + (x3 * x4)) ((ld M 14 x5) + (x3 * (ld M 8 x4)))) → XW kX9_becomeMadeOfTwo d none (wQv Q) 73 [some (.inr (.inr 1)), some (.inr (.inr 13)), some (.inr (.inr 7)), some (.inl x3), some (.inl x4), some (.inl x5), wx6, wx7] [] M') : XW kX9_becomeMadeOfTwo d none (wQv Q) 44 [some (.inr (.inr 1)), some (.inr (.inr 13)), some (.inr (.inr 7)), some (.inl x3), some (.inl x4), some (.inl x5), wx6, wx7] [] M := by
  refine x_aload_n rfl rfl ?_
  refine x_getR rfl sh1 rfl ?_
  refine x_iload rfl rfl ?_
  refine x_iload_n rfl rfl ?_
  refine x_iload rfl rfl ?_
  refine x_imul rfl ?_
  refine x_iadd rfl ?_
  refine x_aload_n rfl rfl ?_
  refine x_getR rfl sh13 rfl ?_
  refine x_iload rfl rfl ?_
  refine x_iaload rfl ⟨sh14, Nat.le_of_ble_eq_true rfl⟩ h1 ?_
  refine x_iload_n rfl rfl ?_
  refine x_aload_n rfl rfl ?_
  refine x_getR rfl sh7 rfl ?_
  refine x_iload rfl rfl ?_
  refine x_iaload rfl ⟨sh8, Nat.le_of_ble_eq_true rfl⟩ h2 ?_
  refine x_imul rfl ?_
  refine x_iadd rfl ?_
  refine x_iastore rfl ⟨sh2, Nat.le_of_ble_eq_true rfl⟩ h3  ?_
  exact k _ rfl
theorem uX9_becomeMadeOfTwo_73 {d : Nat} {Q : yM → Prop} {M : yM} {x3 : Int} {x4 : Int} {x5 : Int} {wx6 : Option yV} {wx7 : Option yV} (k : XW kX9_becomeMadeOfTwo d none (wQv Q) 76 [some (.inr (.inr 1)), some (.inr (.inr 13)), some (.inr (.inr 7)), some (.inl x3), some (.inl x4), some (.inl x5), some (.inl 0), wx7] [] M) : XW kX9_becomeMadeOfTwo d none (wQv Q) 73 [some (.inr (.inr 1)), some (.inr (.inr 13)), some (.inr (.inr 7)), some (.inl x3), some (.inl x4), some (.inl x5), wx6, wx7] [] M := by
  refine x_iconst 0 rfl (by decide) ?_
  refine x_istore rfl (Nat.le_of_ble_eq_true rfl) rfl ?_
  exact k
theorem uX9_becomeMadeOfTwo_76 {d : Nat} {Q : yM → Prop} {M : yM} {x3 : Int} {x4 : Int} {x5 : Int} {x6 : Int} {wx7 : Option yV} (h1 : -2147483648 ≤ x6 ∧ x6 < 2147483648) (kt : x6 ≥ (ld M 7 0) → XW kX9_becomeMadeOfTwo d none (wQv Q) 159 [some (.inr (.inr 1)), some (.inr (.inr 13)), some (.inr (.inr 7)), some (.inl x3), some (.inl x4), some (.inl x5), some (.inl x6), wx7] [] M) (kf : x6 < (ld M 7 0) → XW kX9_becomeMadeOfTwo d none (wQv Q) 85 [some (.inr (.inr 1)), some (.inr (.inr 13)), some (.inr (.inr 7)), some (.inl x3), some (.inl x4), some (.inl x5), some (.inl x6), wx7] [] M) : XW kX9_becomeMadeOfTwo d none (wQv Q) 76 [some (.inr (.inr 1)), some (.inr (.inr 13)), some (.inr (.inr 7)), some (.inl x3), some (.inl x4), some (.inl x5), some (.inl x6), wx7] [] M := by
  refine x_iload rfl rfl ?_
  refine x_aload_n rfl rfl ?_
  refine x_getI rfl sh7 rfl ?_
  exact x_icmpge rfl h1 (rng_ld _ _ _) kt kf
theorem uX9_becomeMadeOfTwo_85 {d : Nat} {Q : yM → Prop} {M : yM} {x3 : Int} {x4 : Int} {x5 : Int} {x6 : Int} {wx7 : Option yV} (k : XW kX9_becomeMadeOfTwo d none (wQv Q) 88 [some (.inr (.inr 1)), some (.inr (.inr 13)), some (.inr (.inr 7)), some (.inl x3), some (.inl x4), some (.inl x5), some (.inl x6), some (.inl 0)] [] M) : XW kX9_becomeMadeOfTwo d none (wQv Q) 85 [some (.inr (.inr 1)), some (.inr (.inr 13)), some (.inr (.inr 7)), some (.inl x3), some (.inl x4), some (.inl x5), some (.inl x6), wx7] [] M := by
  refine x_iconst 0 rfl (by decide) ?_
  refine x_istore rfl (Nat.le_of_ble_eq_true rfl) rfl ?_
  exact k
theorem uX9_becomeMadeOfTwo_88 {d : Nat} {Q : yM → Prop} {M : yM} {x3 : Int} {x4 : Int} {x5 : Int} {x6 : Int} {x7 : Int} (h1 : -2147483648 ≤ x7 ∧ x7 < 2147483648) (h2 : -2147483648 ≤ x3 ∧ x3 < 2147483648) (kt : x7 ≥ x3 → XW kX9_becomeMadeOfTwo d none (wQv Q) 153 [some (.inr (.inr 1)), some (.inr (.inr 13)), some (.inr (.inr 7)), some (.inl x3), some (.inl x4), some (.inl x5), some (.inl x6), some (.inl x7)] [] M) (kf : x7 < x3 → XW kX9_becomeMadeOfTwo d none (wQv Q) 94 [some (.inr (.inr 1)), some (.inr (.inr 13)), some (.inr (.inr 7)), some (.inl x3), some (.inl x4), some (.inl x5), some (.inl x6), some (.inl x7)] [] M) : XW kX9_becomeMadeOfTwo d none (wQv Q) 88 [some (.inr (.inr 1)), some (.inr (.inr 13)), some (.inr (.inr 7)), some (.inl x3), some (.inl x4), some (.inl x5), some (.inl x6), some (.inl x7)] [] M := by
  refine x_iload rfl rfl ?_
  refine x_iload_n rfl rfl ?_
  exact x_icmpge rfl h1 h2 kt kf
theorem uX9_becomeMadeOfTwo_94 {d : Nat} {Q : yM → Prop} {M : yM} {x3 : Int} {x4 : Int} {x5 : Int} {x6 : Int} {x7 : Int} (h1 : 0 ≤ ((8 * x5) + x7) ∧ ((8 * x5) + x7) < 64) (h2 : 0 ≤ ((8 * x4) + x6) ∧ ((8 * x4) + x6) < 64) (k : XCi d 79 [.inl (ld M 15 ((8 * x5) + x7)), .inl (ld M 9 ((8 * x4) + x6)), .inl x3] M (fun v M' => XW kX9_becomeMadeOfTwo (d + 1) none (wQv Q) 146 [some (.inr (.inr 1)), some (.inr (.inr 13)), some (.inr (.inr 7)), some (.inl x3), some (.inl x4), some (.inl x5), some (.inl x6), some (.inl x7)] [.inl v, .inl (((8 * (x5 + (x3 * x4))) + x7) + (x3 * x6)), .inr (.inr 3)] M')) : XW kX9_becomeMadeOfTwo (d + 1) none (wQv Q) 94 [some (.inr (.inr 1)), some (.inr (.inr 13)), some (.inr (.inr 7)), some (.inl x3), some (.inl x4), some (.inl x5), some (.inl x6), some (.inl x7)] [] M := by
  refine x_aload_n rfl rfl ?_
  refine x_getR rfl sh1 rfl ?_
  refine x_bipush 8 rfl (by decide) ?_
  refine x_iload rfl rfl ?_
  refine x_iload_n rfl rfl ?_
  refine x_iload rfl rfl ?_
  refine x_imul rfl ?_
  refine x_iadd rfl ?_
  refine x_imul rfl ?_
  refine x_iload rfl rfl ?_
  refine x_iadd rfl ?_
  refine x_iload_n rfl rfl ?_
  refine x_iload rfl rfl ?_
  refine x_imul rfl ?_
  refine x_iadd rfl ?_
  refine x_aload_n rfl rfl ?_
  refine x_getR rfl sh13 rfl ?_
  refine x_bipush 8 rfl (by decide) ?_
  refine x_iload rfl rfl ?_
  refine x_imul rfl ?_
  refine x_iload rfl rfl ?_
  refine x_iadd rfl ?_
  refine x_iaload rfl ⟨sh15, Nat.le_of_ble_eq_true rfl⟩ h1 ?_
  refine x_aload_n rfl rfl ?_
  refine x_getR rfl sh7 rfl ?_
  refine x_bipush 8 rfl (by decide) ?_
  refine x_iload rfl rfl ?_
  refine x_imul rfl ?_
  refine x_iload rfl rfl ?_
  refine x_iadd rfl ?_
  refine x_iaload rfl ⟨sh9, Nat.le_of_ble_eq_true rfl⟩ h2 ?_
  refine x_iload_n rfl rfl ?_
  exact x_calli (args := [.inl (ld M 15 ((8 * x5) + x7)), .inl (ld M 9 ((8 * x4) + x6)), .inl x3]) rfl rfl rfl k
theorem uX9_becomeMadeOfTwo_146 {d : Nat} {Q : yM → Prop} {M : yM} {x3 : Int} {x4 : Int} {x5 : Int} {x6 : Int} {x7 : Int} {s0 : Int} {s1 : Int} (h1 : 0 ≤ s1 ∧ s1 < 64) (k : ∀ M', M' = (put M 3 s1 s0) → XW kX9_becomeMadeOfTwo d none (wQv Q) 147 [some (.inr (.inr 1)), some (.inr (.inr 13)), some (.inr (.inr 7)), some (.inl x3), some (.inl x4), some (.inl x5), some (.inl x6), some (.inl x7)] [] M') : XW kX9_becomeMadeOfTwo d none (wQv Q) 146 [some (.inr (.inr 1)), some (.inr (.inr 13)), some (.inr (.inr 7)), some (.inl x3), some (.inl x4), some (.inl x5), some (.inl x6), some (.inl x7)] [.inl s0, .inl s1, .inr (.inr 3)] M := by
  refine x_iastore rfl ⟨sh3, Nat.le_of_ble_eq_true rfl⟩ h1  ?_
  exact k _ rfl
theorem uX9_becomeMadeOfTwo_147 {d : Nat} {Q : yM → Prop} {M : yM} {x3 : Int} {x4 : Int} {x5 : Int} {x6 : Int} {x7 : Int} (k : XW kX9_becomeMadeOfTwo d none (wQv Q) 88 [some (.inr (.inr 1)), some (.inr (.inr 13)), some (.inr (.inr 7)), some (.inl x3), some (.inl x4), some (.inl x5), some (.inl x6), some (.inl (x7 + 1))] [] M) : XW kX9_becomeMadeOfTwo d none (wQv Q) 147 [some (.inr (.inr 1)), some (.inr (.inr 13)), some (.inr (.inr 7)), some (.inl x3), some (.inl x4), some (.inl x5), some (.inl x6), some (.inl x7)] [] M := by
  refine x_iinc 1 rfl (by decide) rfl rfl ?_
  exact x_goto rfl k
theorem uX9_becomeMadeOfTwo_153 {d : Nat} {Q : yM → Prop} {M : yM} {x3 : Int} {x4 : Int} {x5 : Int} {x6 : Int} {x7 : Int} (k : XW kX9_becomeMadeOfTwo d none (wQv Q) 76 [some (.inr (.inr 1)), some (.inr (.inr 13)), some (.inr (.inr 7)), some (.inl x3), some (.inl x4), some (.inl x5), some (.inl (x6 + 1)), some (.inl x7)] [] M) : XW kX9_becomeMadeOfTwo d none (wQv Q) 153 [some (.inr (.inr 1)), some (.inr (.inr 13)), some (.inr (.inr 7)), some (.inl x3), some (.inl x4), some (.inl x5), some (.inl x6), some (.inl x7)] [] M := by
  refine x_iinc 1 rfl (by decide) rfl rfl ?_
  exact x_goto rfl k
theorem uX9_becomeMadeOfTwo_159 {d : Nat} {Q : yM → Prop} {M : yM} {x3 : Int} {x4 : Int} {x5 : Int} {x6 : Int} {wx7 : Option yV} (k : XW kX9_becomeMadeOfTwo d none (wQv Q) 38 [some (.inr (.inr 1)), some (.inr (.inr 13)), some (.inr (.inr 7)), some (.inl x3), some (.inl x4), some (.inl (x5 + 1)), some (.inl x6), wx7] [] M) : XW kX9_becomeMadeOfTwo d none (wQv Q) 159 [some (.inr (.inr 1)), some (.inr (.inr 13)), some (.inr (.inr 7)), some (.inl x3), some (.inl x4), some (.inl x5), some (.inl x6), wx7] [] M := by
  refine x_iinc 1 rfl (by decide) rfl rfl ?_
  exact x_goto rfl k
theorem uX9_becomeMadeOfTwo_165 {d : Nat} {Q : yM → Prop} {M : yM} {x3 : Int} {x4 : Int} {x5 : Int} {wx6 : Option yV} {wx7 : Option yV} (k : XW kX9_becomeMadeOfTwo d none (wQv Q) 26 [some (.inr (.inr 1)), some (.inr (.inr 13)), some (.inr (.inr 7)), some (.inl x3), some (.inl (x4 + 1)), some (.inl x5), wx6, wx7] [] M) : XW kX9_becomeMadeOfTwo d none (wQv Q) 165 [some (.inr (.inr 1)), some (.inr (.inr 13)), some (.inr (.inr 7)), some (.inl x3), some (.inl x4), some (.inl x5), wx6, wx7] [] M := by
  refine x_iinc 1 rfl (by decide) rfl rfl ?_
  exact x_goto rfl k
theorem uX9_becomeMadeOfTwo_171 {d : Nat} {Q : yM → Prop} {M : yM} {x3 : Int} {x4 : Int} {wx5 : Option yV} {wx6 : Option yV} {wx7 : Option yV} (k : XCv d 68 [.inr (.inr 1)] M (fun M' => XW kX9_becomeMadeOfTwo (d + 1) none (wQv Q) 175 [some (.inr (.inr 1)), some (.inr (.inr 13)), some (.inr (.inr 7)), some (.inl x3), some (.inl x4), wx5, wx6, wx7] [] M')) : XW kX9_becomeMadeOfTwo (d + 1) none (wQv Q) 171 [some (.inr (.inr 1)), some (.inr (.inr 13)), some (.inr (.inr 7)), some (.inl x3), some (.inl x4), wx5, wx6, wx7] [] M := by
  refine x_aload_n rfl rfl ?_
  exact x_callv (args := [.inr (.inr 1)]) rfl rfl rfl k
theorem uX9_becomeMadeOfTwo_175 {d : Nat} {Q : yM → Prop} {M : yM} {x3 : Int} {x4 : Int} {wx5 : Option yV} {wx6 : Option yV} {wx7 : Option yV} (k : Q M) : XW kX9_becomeMadeOfTwo d none (wQv Q) 175 [some (.inr (.inr 1)), some (.inr (.inr 13)), some (.inr (.inr 7)), some (.inl x3), some (.inl x4), wx5, wx6, wx7] [] M := by
  exact x_return rfl k
theorem eX9_paired {d : Nat} {Q : Int → yM → Prop} {M : yM} {x0 : Int} {x1 : Int} {x2 : Int}  (h : XW kX9_paired d (some .int) (wQi Q) 0 [some (.inl x0), some (.inl x1), some (.inl x2), none, none] [] M) : XCi d 79 [.inl x0, .inl x1, .inl x2] M Q :=
  XC.ofW (Mm := (yX9_paired, cX9_paired, 5, (some .int), 0, kX9_paired)) rfl rfl rfl rfl h
theorem uX9_paired_0 {d : Nat} {Q : Int → yM → Prop} {M : yM} {x0 : Int} {x1 : Int} {x2 : Int} (k : XW kX9_paired d (some .int) (wQi Q) 5 [some (.inl x0), some (.inl x1), some (.inl x2), some (.inl 0), some (.inl 0)] [] M) : XW kX9_paired d (some .int) (wQi Q) 0 [some (.inl x0), some (.inl x1), some (.inl x2), none, none] [] M := by
  refine x_iconst 0 rfl (by decide) ?_
  refine x_istore_n rfl (Nat.le_of_ble_eq_true rfl) rfl ?_
  refine x_iconst 0 rfl (by decide) ?_
  refine x_istore rfl (Nat.le_of_ble_eq_true rfl) rfl ?_
  exact k
theorem uX9_paired_5 {d : Nat} {Q : Int → yM → Prop} {M : yM} {x0 : Int} {x1 : Int} {x2 : Int} {x3 : Int} {x4 : Int} (h1 : -2147483648 ≤ x4 ∧ x4 < 2147483648) (kt : x4 ≥ 8 → XW kX9_paired d (some .int) (wQi Q) 37 [some (.inl x0), some (.inl x1), some (.inl x2), some (.inl x3), some (.inl x4)] [] M) (kf : x4 < 8 → XW kX9_paired d (some .int) (wQi Q) 12 [some (.inl x0), some (.inl x1), some (.inl x2), some (.inl x3), some (.inl x4)] [] M) : XW kX9_paired d (some .int) (wQi Q) 5 [some (.inl x0), some (.inl x1), some (.inl x2), some (.inl x3), some (.inl x4)] [] M := by
  refine x_iload rfl rfl ?_
  refine x_bipush 8 rfl (by decide) ?_
  exact x_icmpge rfl h1 (by decide) kt kf
theorem uX9_paired_12 {d : Nat} {Q : Int → yM → Prop} {M : yM} {x0 : Int} {x1 : Int} {x2 : Int} {x3 : Int} {x4 : Int} (kt : (yand (yshr x1 x4) 1) ≠ 1 → XW kX9_paired d (some .int) (wQi Q) 31 [some (.inl x0), some (.inl x1), some (.inl x2), some (.inl x3), some (.inl x4)] [] M) (kf : (yand (yshr x1 x4) 1) = 1 → XW kX9_paired d (some .int) (wQi Q) 22 [some (.inl x0), some (.inl x1), some (.inl x2), some (.inl x3), some (.inl x4)] [] M) : XW kX9_paired d (some .int) (wQi Q) 12 [some (.inl x0), some (.inl x1), some (.inl x2), some (.inl x3), some (.inl x4)] [] M := by
  refine x_iload_n rfl rfl ?_
  refine x_iload rfl rfl ?_
  refine x_ishr rfl ?_
  refine x_iconst 1 rfl (by decide) ?_
  refine x_iand rfl ?_
  refine x_iconst 1 rfl (by decide) ?_
  exact x_icmpne rfl (rng_yand _ _) (by decide) kt kf
theorem uX9_paired_22 {d : Nat} {Q : Int → yM → Prop} {M : yM} {x0 : Int} {x1 : Int} {x2 : Int} {x3 : Int} {x4 : Int} (k : XW kX9_paired d (some .int) (wQi Q) 31 [some (.inl x0), some (.inl x1), some (.inl x2), some (.inl (yor x3 (yshl x0 (x2 * x4)))), some (.inl x4)] [] M) : XW kX9_paired d (some .int) (wQi Q) 22 [some (.inl x0), some (.inl x1), some (.inl x2), some (.inl x3), some (.inl x4)] [] M := by
  refine x_iload_n rfl rfl ?_
  refine x_iload_n rfl rfl ?_
  refine x_iload_n rfl rfl ?_
  refine x_iload rfl rfl ?_
  refine x_imul rfl ?_
  refine x_ishl rfl ?_
  refine x_ior rfl ?_
  refine x_istore_n rfl (Nat.le_of_ble_eq_true rfl) rfl ?_
  exact k
theorem uX9_paired_31 {d : Nat} {Q : Int → yM → Prop} {M : yM} {x0 : Int} {x1 : Int} {x2 : Int} {x3 : Int} {x4 : Int} (k : XW kX9_paired d (some .int) (wQi Q) 5 [some (.inl x0), some (.inl x1), some (.inl x2), some (.inl x3), some (.inl (x4 + 1))] [] M) : XW kX9_paired d (some .int) (wQi Q) 31 [some (.inl x0), some (.inl x1), some (.inl x2), some (.inl x3), some (.inl x4)] [] M := by
  refine x_iinc 1 rfl (by decide) rfl rfl ?_
  exact x_goto rfl k
theorem uX9_paired_37 {d : Nat} {Q : Int → yM → Prop} {M : yM} {x0 : Int} {x1 : Int} {x2 : Int} {x3 : Int} {x4 : Int} (k : Q x3 M) : XW kX9_paired d (some .int) (wQi Q) 37 [some (.inl x0), some (.inl x1), some (.inl x2), some (.inl x3), some (.inl x4)] [] M := by
  refine x_iload_n rfl rfl ?_
  exact x_ireturn rfl k
theorem eX10_empty {d : Nat} {Q : yM → Prop} {M : yM} {x0 : Nat} (hT : termSh x0) (h : XW kX10_empty d none (wQv Q) 0 [some (.inr (.inr x0))] [] M) : XCv d 81 [.inr (.inr x0)] M Q :=
  XC.ofW (Mm := (yX10_empty, cX10_empty, 1, none, 11, kX10_empty)) rfl (rcv_ok hT.1) rfl rfl h
theorem uX10_empty_0 {d : Nat} {Q : yM → Prop} {M : yM} {x0 : Nat} (h1 : termSh x0) (k : ∀ M', M' = (put M (x0 + 1) 0 48) → XW kX10_empty d none (wQv Q) 8 [some (.inr (.inr x0))] [] M') : XW kX10_empty d none (wQv Q) 0 [some (.inr (.inr x0))] [] M := by
  refine x_aload_n rfl rfl ?_
  refine x_getR rfl h1.1 rfl ?_
  refine x_iconst 0 rfl (by decide) ?_
  refine x_bipush 48 rfl (by decide) ?_
  refine x_iastore rfl h1.2 (by decide)  ?_
  exact k _ rfl
theorem uX10_empty_8 {d : Nat} {Q : yM → Prop} {M : yM} {x0 : Nat} (h1 : termSh x0) (k : ∀ M', M' = (put M x0 1 1) → XW kX10_empty d none (wQv Q) 13 [some (.inr (.inr x0))] [] M') : XW kX10_empty d none (wQv Q) 8 [some (.inr (.inr x0))] [] M := by
  refine x_aload_n rfl rfl ?_
  refine x_iconst 1 rfl (by decide) ?_
  refine x_putI rfl rfl h1.1 rfl ?_
  exact k _ rfl
theorem uX10_empty_13 {d : Nat} {Q : yM → Prop} {M : yM} {x0 : Nat} (h1 : termSh x0) (k : ∀ M', M' = (put M x0 2 0) → XW kX10_empty d none (wQv Q) 18 [some (.inr (.inr x0))] [] M') : XW kX10_empty d none (wQv Q) 13 [some (.inr (.inr x0))] [] M := by
  refine x_aload_n rfl rfl ?_
  refine x_iconst 0 rfl (by decide) ?_
  refine x_putI rfl rfl h1.1 rfl ?_
  exact k _ rfl
theorem uX10_empty_18 {d : Nat} {Q : yM → Prop} {M : yM} {x0 : Nat} (k : Q M) : XW kX10_empty d none (wQv Q) 18 [some (.inr (.inr x0))] [] M := by
  exact x_return rfl k
theorem eX10_takeFrom {d : Nat} {Q : yM → Prop} {M : yM} {x0 : Nat} (hT : termSh x0) (h : XW kX10_takeFrom d none (wQv Q) 0 [some (.inr (.inr x0)), some (.inr (.inr 77))] [] M) : XCv d 82 [.inr (.inr x0), .inr (.inr 77)] M Q :=
  XC.ofW (Mm := (yX10_takeFrom, cX10_takeFrom, 2, none, 11, kX10_takeFrom)) rfl (rcv_ok hT.1) rfl rfl h
theorem uX10_takeFrom_0 {d : Nat} {Q : yM → Prop} {M : yM} {x0 : Nat} (h1 : termSh x0) (k : ∀ M', M' = (cpy M 79 (x0 + 1) 0 0 60) → XW kX10_takeFrom d none (wQv Q) 15 [some (.inr (.inr x0)), some (.inr (.inr 77))] [] M') : XW kX10_takeFrom d none (wQv Q) 0 [some (.inr (.inr x0)), some (.inr (.inr 77))] [] M := by
  refine x_aload_n rfl rfl ?_
  refine x_getR rfl sh77 rfl ?_
  refine x_iconst 0 rfl (by decide) ?_
  refine x_aload_n rfl rfl ?_
  refine x_getR rfl h1.1 rfl ?_
  refine x_iconst 0 rfl (by decide) ?_
  refine x_bipush 60 rfl (by decide) ?_
  refine x_cpy rfl ⟨sh79, Nat.le_of_ble_eq_true rfl⟩ h1.2 (by decide) (Nat.le_of_ble_eq_true rfl) ?_
  exact k _ rfl
theorem uX10_takeFrom_15 {d : Nat} {Q : yM → Prop} {M : yM} {x0 : Nat} (h1 : termSh x0) (k : ∀ M', M' = (put M x0 1 (ld M 77 3)) → XW kX10_takeFrom d none (wQv Q) 23 [some (.inr (.inr x0)), some (.inr (.inr 77))] [] M') : XW kX10_takeFrom d none (wQv Q) 15 [some (.inr (.inr x0)), some (.inr (.inr 77))] [] M := by
  refine x_aload_n rfl rfl ?_
  refine x_aload_n rfl rfl ?_
  refine x_getI rfl sh77 rfl ?_
  refine x_putI rfl rfl h1.1 rfl ?_
  exact k _ rfl
theorem uX10_takeFrom_23 {d : Nat} {Q : yM → Prop} {M : yM} {x0 : Nat} (h1 : termSh x0) (k : ∀ M', M' = (put M x0 2 (ld M 77 4)) → XW kX10_takeFrom d none (wQv Q) 31 [some (.inr (.inr x0)), some (.inr (.inr 77))] [] M') : XW kX10_takeFrom d none (wQv Q) 23 [some (.inr (.inr x0)), some (.inr (.inr 77))] [] M := by
  refine x_aload_n rfl rfl ?_
  refine x_aload_n rfl rfl ?_
  refine x_getI rfl sh77 rfl ?_
  refine x_putI rfl rfl h1.1 rfl ?_
  exact k _ rfl
theorem uX10_takeFrom_31 {d : Nat} {Q : yM → Prop} {M : yM} {x0 : Nat} (k : Q M) : XW kX10_takeFrom d none (wQv Q) 31 [some (.inr (.inr x0)), some (.inr (.inr 77))] [] M := by
  exact x_return rfl k
theorem eX11_kinds {d : Nat} {Q : Int → yM → Prop} {M : yM} {x1 : Int}  (h : XW kX11_kinds d (some .int) (wQi Q) 0 [some (.inr (.inr 0)), some (.inl x1), none] [] M) : XCi d 84 [.inr (.inr 0), .inl x1] M Q :=
  XC.ofW (Mm := (yX11_kinds, cX11_kinds, 3, (some .int), 12, kX11_kinds)) rfl (rcv_ok sh0) rfl rfl h
theorem uX11_kinds_0 {d : Nat} {Q : Int → yM → Prop} {M : yM} {x1 : Int} (h1 : -2147483648 ≤ x1 ∧ x1 < 2147483648) (kt : x1 < 1 → XW kX11_kinds d (some .int) (wQi Q) 11 [some (.inr (.inr 0)), some (.inl x1), none] [] M) (kf : x1 ≥ 1 → XW kX11_kinds d (some .int) (wQi Q) 5 [some (.inr (.inr 0)), some (.inl x1), none] [] M) : XW kX11_kinds d (some .int) (wQi Q) 0 [some (.inr (.inr 0)), some (.inl x1), none] [] M := by
  refine x_iload_n rfl rfl ?_
  refine x_iconst 1 rfl (by decide) ?_
  exact x_icmplt rfl h1 (by decide) kt kf
theorem uX11_kinds_5 {d : Nat} {Q : Int → yM → Prop} {M : yM} {x1 : Int} (h1 : -2147483648 ≤ x1 ∧ x1 < 2147483648) (kt : x1 ≤ 8 → XW kX11_kinds d (some .int) (wQi Q) 13 [some (.inr (.inr 0)), some (.inl x1), none] [] M) (kf : x1 > 8 → XW kX11_kinds d (some .int) (wQi Q) 11 [some (.inr (.inr 0)), some (.inl x1), none] [] M) : XW kX11_kinds d (some .int) (wQi Q) 5 [some (.inr (.inr 0)), some (.inl x1), none] [] M := by
  refine x_iload_n rfl rfl ?_
  refine x_bipush 8 rfl (by decide) ?_
  exact x_icmple rfl h1 (by decide) kt kf
theorem uX11_kinds_11 {d : Nat} {Q : Int → yM → Prop} {M : yM} {x1 : Int} (k : Q (-1) M) : XW kX11_kinds d (some .int) (wQi Q) 11 [some (.inr (.inr 0)), some (.inl x1), none] [] M := by
  refine x_iconst (-1) rfl (by decide) ?_
  exact x_ireturn rfl k
theorem uX11_kinds_13 {d : Nat} {Q : Int → yM → Prop} {M : yM} {x1 : Int} (k : XCv d 62 [.inr (.inr 1), .inl x1] M (fun M' => XW kX11_kinds (d + 1) (some .int) (wQi Q) 29 [some (.inr (.inr 0)), some (.inl x1), some (.inl (ld M 1 0))] [] M')) : XW kX11_kinds (d + 1) (some .int) (wQi Q) 13 [some (.inr (.inr 0)), some (.inl x1), none] [] M := by
  refine x_aload_n rfl rfl ?_
  refine x_getR rfl sh0 rfl ?_
  refine x_getI rfl sh1 rfl ?_
  refine x_istore_n rfl (Nat.le_of_ble_eq_true rfl) rfl ?_
  refine x_aload_n rfl rfl ?_
  refine x_getR rfl sh0 rfl ?_
  refine x_iload_n rfl rfl ?_
  exact x_callv (args := [.inr (.inr 1), .inl x1]) rfl rfl rfl k
theorem uX11_kinds_29 {d : Nat} {Q : Int → yM → Prop} {M : yM} {x1 : Int} {x2 : Int} (k : XCv d 113 [.inr (.inr 0)] M (fun M' => XW kX11_kinds (d + 1) (some .int) (wQi Q) 33 [some (.inr (.inr 0)), some (.inl x1), some (.inl x2)] [] M')) : XW kX11_kinds (d + 1) (some .int) (wQi Q) 29 [some (.inr (.inr 0)), some (.inl x1), some (.inl x2)] [] M := by
  refine x_aload_n rfl rfl ?_
  exact x_callv (args := [.inr (.inr 0)]) rfl rfl rfl k
theorem uX11_kinds_33 {d : Nat} {Q : Int → yM → Prop} {M : yM} {x1 : Int} {x2 : Int} (k : Q x2 M) : XW kX11_kinds d (some .int) (wQi Q) 33 [some (.inr (.inr 0)), some (.inl x1), some (.inl x2)] [] M := by
  refine x_iload_n rfl rfl ?_
  exact x_ireturn rfl k
theorem eX11_turn {d : Nat} {Q : Int → yM → Prop} {M : yM} {x1 : Int} {x2 : Int}  (h : XW kX11_turn d (some .int) (wQi Q) 0 [some (.inr (.inr 0)), some (.inl x1), some (.inl x2)] [] M) : XCi d 85 [.inr (.inr 0), .inl x1, .inl x2] M Q :=
  XC.ofW (Mm := (yX11_turn, cX11_turn, 3, (some .int), 12, kX11_turn)) rfl (rcv_ok sh0) rfl rfl h
theorem uX11_turn_0 {d : Nat} {Q : Int → yM → Prop} {M : yM} {x1 : Int} {x2 : Int} (k : XCi d 109 [.inr (.inr 0), .inl x1] M (fun v M' => XW kX11_turn (d + 1) (some .int) (wQi Q) 5 [some (.inr (.inr 0)), some (.inl x1), some (.inl x2)] [.inl v] M')) : XW kX11_turn (d + 1) (some .int) (wQi Q) 0 [some (.inr (.inr 0)), some (.inl x1), some (.inl x2)] [] M := by
  refine x_aload_n rfl rfl ?_
  refine x_iload_n rfl rfl ?_
  exact x_calli (args := [.inr (.inr 0), .inl x1]) rfl rfl rfl k
theorem uX11_turn_5 {d : Nat} {Q : Int → yM → Prop} {M : yM} {x1 : Int} {x2 : Int} {s0 : Int} (h1 : -2147483648 ≤ s0 ∧ s0 < 2147483648) (kt : s0 = 0 → XW kX11_turn d (some .int) (wQi Q) 16 [some (.inr (.inr 0)), some (.inl x1), some (.inl x2)] [] M) (kf : s0 ≠ 0 → XW kX11_turn d (some .int) (wQi Q) 8 [some (.inr (.inr 0)), some (.inl x1), some (.inl x2)] [] M) : XW kX11_turn d (some .int) (wQi Q) 5 [some (.inr (.inr 0)), some (.inl x1), some (.inl x2)] [.inl s0] M := by
  exact x_ifeq rfl h1 kt kf
theorem uX11_turn_8 {d : Nat} {Q : Int → yM → Prop} {M : yM} {x1 : Int} {x2 : Int} (k : XCi d 109 [.inr (.inr 0), .inl x2] M (fun v M' => XW kX11_turn (d + 1) (some .int) (wQi Q) 13 [some (.inr (.inr 0)), some (.inl x1), some (.inl x2)] [.inl v] M')) : XW kX11_turn (d + 1) (some .int) (wQi Q) 8 [some (.inr (.inr 0)), some (.inl x1), some (.inl x2)] [] M := by
  refine x_aload_n rfl rfl ?_
  refine x_iload_n rfl rfl ?_
  exact x_calli (args := [.inr (.inr 0), .inl x2]) rfl rfl rfl k
theorem uX11_turn_13 {d : Nat} {Q : Int → yM → Prop} {M : yM} {x1 : Int} {x2 : Int} {s0 : Int} (h1 : -2147483648 ≤ s0 ∧ s0 < 2147483648) (kt : s0 ≠ 0 → XW kX11_turn d (some .int) (wQi Q) 18 [some (.inr (.inr 0)), some (.inl x1), some (.inl x2)] [] M) (kf : s0 = 0 → XW kX11_turn d (some .int) (wQi Q) 16 [some (.inr (.inr 0)), some (.inl x1), some (.inl x2)] [] M) : XW kX11_turn d (some .int) (wQi Q) 13 [some (.inr (.inr 0)), some (.inl x1), some (.inl x2)] [.inl s0] M := by
  exact x_ifne rfl h1 kt kf
theorem uX11_turn_16 {d : Nat} {Q : Int → yM → Prop} {M : yM} {x1 : Int} {x2 : Int} (k : Q (-1) M) : XW kX11_turn d (some .int) (wQi Q) 16 [some (.inr (.inr 0)), some (.inl x1), some (.inl x2)] [] M := by
  refine x_iconst (-1) rfl (by decide) ?_
  exact x_ireturn rfl k
theorem uX11_turn_18 {d : Nat} {Q : Int → yM → Prop} {M : yM} {x1 : Int} {x2 : Int} (k : XCv d 63 [.inr (.inr 1), .inl x1, .inl x2] M (fun M' => XW kX11_turn (d + 1) (some .int) (wQi Q) 27 [some (.inr (.inr 0)), some (.inl x1), some (.inl x2)] [] M')) : XW kX11_turn (d + 1) (some .int) (wQi Q) 18 [some (.inr (.inr 0)), some (.inl x1), some (.inl x2)] [] M := by
  refine x_aload_n rfl rfl ?_
  refine x_getR rfl sh0 rfl ?_
  refine x_iload_n rfl rfl ?_
  refine x_iload_n rfl rfl ?_
  exact x_callv (args := [.inr (.inr 1), .inl x1, .inl x2]) rfl rfl rfl k
theorem uX11_turn_27 {d : Nat} {Q : Int → yM → Prop} {M : yM} {x1 : Int} {x2 : Int} (k : XCi d 60 [.inr (.inr 1)] M (fun v M' => XW kX11_turn (d + 1) (some .int) (wQi Q) 45 [some (.inr (.inr 0)), some (.inl x1), some (.inl x2)] [.inl v, .inl (ld M 19 0), .inr (.inr 19)] M')) : XW kX11_turn (d + 1) (some .int) (wQi Q) 27 [some (.inr (.inr 0)), some (.inl x1), some (.inl x2)] [] M := by
  refine x_aload_n rfl rfl ?_
  refine x_getR rfl sh0 rfl ?_
  refine x_aload_n rfl rfl ?_
  refine x_getR rfl sh0 rfl ?_
  refine x_getI rfl sh19 rfl ?_
  refine x_aload_n rfl rfl ?_
  refine x_getR rfl sh0 rfl ?_
  exact x_calli (args := [.inr (.inr 1)]) rfl rfl rfl k
theorem uX11_turn_45 {d : Nat} {Q : Int → yM → Prop} {M : yM} {x1 : Int} {x2 : Int} {s0 : Int} {s1 : Int} (k : XCv d 36 [.inr (.inr 19), .inl s1, .inl s0] M (fun M' => XW kX11_turn (d + 1) (some .int) (wQi Q) 48 [some (.inr (.inr 0)), some (.inl x1), some (.inl x2)] [] M')) : XW kX11_turn (d + 1) (some .int) (wQi Q) 45 [some (.inr (.inr 0)), some (.inl x1), some (.inl x2)] [.inl s0, .inl s1, .inr (.inr 19)] M := by
  exact x_callv (args := [.inr (.inr 19), .inl s1, .inl s0]) rfl rfl rfl k
theorem uX11_turn_48 {d : Nat} {Q : Int → yM → Prop} {M : yM} {x1 : Int} {x2 : Int} (k : XCv d 114 [.inr (.inr 0)] M (fun M' => XW kX11_turn (d + 1) (some .int) (wQi Q) 52 [some (.inr (.inr 0)), some (.inl x1), some (.inl x2)] [] M')) : XW kX11_turn (d + 1) (some .int) (wQi Q) 48 [some (.inr (.inr 0)), some (.inl x1), some (.inl x2)] [] M := by
  refine x_aload_n rfl rfl ?_
  exact x_callv (args := [.inr (.inr 0)]) rfl rfl rfl k
theorem uX11_turn_52 {d : Nat} {Q : Int → yM → Prop} {M : yM} {x1 : Int} {x2 : Int} (k : Q 1 M) : XW kX11_turn d (some .int) (wQi Q) 52 [some (.inr (.inr 0)), some (.inl x1), some (.inl x2)] [] M := by
  refine x_iconst 1 rfl (by decide) ?_
  exact x_ireturn rfl k
theorem eX11_triangle {d : Nat} {Q : Int → yM → Prop} {M : yM} {x1 : Int} {x2 : Int} {x3 : Int} {x4 : Int}  (h : XW kX11_triangle d (some .int) (wQi Q) 0 [some (.inr (.inr 0)), some (.inl x1), some (.inl x2), some (.inl x3), some (.inl x4), none] [] M) : XCi d 86 [.inr (.inr 0), .inl x1, .inl x2, .inl x3, .inl x4] M Q :=
  XC.ofW (Mm := (yX11_triangle, cX11_triangle, 6, (some .int), 12, kX11_triangle)) rfl (rcv_ok sh0) rfl rfl h
theorem uX11_triangle_0 {d : Nat} {Q : Int → yM → Prop} {M : yM} {x1 : Int} {x2 : Int} {x3 : Int} {x4 : Int} (k : XCi d 109 [.inr (.inr 0), .inl x1] M (fun v M' => XW kX11_triangle (d + 1) (some .int) (wQi Q) 5 [some (.inr (.inr 0)), some (.inl x1), some (.inl x2), some (.inl x3), some (.inl x4), none] [.inl v] M')) : XW kX11_triangle (d + 1) (some .int) (wQi Q) 0 [some (.inr (.inr 0)), some (.inl x1), some (.inl x2), some (.inl x3), some (.inl x4), none] [] M := by
  refine x_aload_n rfl rfl ?_
  refine x_iload_n rfl rfl ?_
  exact x_calli (args := [.inr (.inr 0), .inl x1]) rfl rfl rfl k
theorem uX11_triangle_5 {d : Nat} {Q : Int → yM → Prop} {M : yM} {x1 : Int} {x2 : Int} {x3 : Int} {x4 : Int} {s0 : Int} (h1 : -2147483648 ≤ s0 ∧ s0 < 2147483648) (kt : s0 = 0 → XW kX11_triangle d (some .int) (wQi Q) 32 [some (.inr (.inr 0)), some (.inl x1), some (.inl x2), some (.inl x3), some (.inl x4), none] [] M) (kf : s0 ≠ 0 → XW kX11_triangle d (some .int) (wQi Q) 8 [some (.inr (.inr 0)), some (.inl x1), some (.inl x2), some (.inl x3), some (.inl x4), none] [] M) : XW kX11_triangle d (some .int) (wQi Q) 5 [some (.inr (.inr 0)), some (.inl x1), some (.inl x2), some (.inl x3), some (.inl x4), none] [.inl s0] M := by
  exact x_ifeq rfl h1 kt kf
theorem uX11_triangle_8 {d : Nat} {Q : Int → yM → Prop} {M : yM} {x1 : Int} {x2 : Int} {x3 : Int} {x4 : Int} (k : XCi d 109 [.inr (.inr 0), .inl x2] M (fun v M' => XW kX11_triangle (d + 1) (some .int) (wQi Q) 13 [some (.inr (.inr 0)), some (.inl x1), some (.inl x2), some (.inl x3), some (.inl x4), none] [.inl v] M')) : XW kX11_triangle (d + 1) (some .int) (wQi Q) 8 [some (.inr (.inr 0)), some (.inl x1), some (.inl x2), some (.inl x3), some (.inl x4), none] [] M := by
  refine x_aload_n rfl rfl ?_
  refine x_iload_n rfl rfl ?_
  exact x_calli (args := [.inr (.inr 0), .inl x2]) rfl rfl rfl k
theorem uX11_triangle_13 {d : Nat} {Q : Int → yM → Prop} {M : yM} {x1 : Int} {x2 : Int} {x3 : Int} {x4 : Int} {s0 : Int} (h1 : -2147483648 ≤ s0 ∧ s0 < 2147483648) (kt : s0 = 0 → XW kX11_triangle d (some .int) (wQi Q) 32 [some (.inr (.inr 0)), some (.inl x1), some (.inl x2), some (.inl x3), some (.inl x4), none] [] M) (kf : s0 ≠ 0 → XW kX11_triangle d (some .int) (wQi Q) 16 [some (.inr (.inr 0)), some (.inl x1), some (.inl x2), some (.inl x3), some (.inl x4), none] [] M) : XW kX11_triangle d (some .int) (wQi Q) 13 [some (.inr (.inr 0)), some (.inl x1), some (.inl x2), some (.inl x3), some (.inl x4), none] [.inl s0] M := by
  exact x_ifeq rfl h1 kt kf
theorem uX11_triangle_16 {d : Nat} {Q : Int → yM → Prop} {M : yM} {x1 : Int} {x2 : Int} {x3 : Int} {x4 : Int} (k : XCi d 109 [.inr (.inr 0), .inl x3] M (fun v M' => XW kX11_triangle (d + 1) (some .int) (wQi Q) 21 [some (.inr (.inr 0)), some (.inl x1), some (.inl x2), some (.inl x3), some (.inl x4), none] [.inl v] M')) : XW kX11_triangle (d + 1) (some .int) (wQi Q) 16 [some (.inr (.inr 0)), some (.inl x1), some (.inl x2), some (.inl x3), some (.inl x4), none] [] M := by
  refine x_aload_n rfl rfl ?_
  refine x_iload_n rfl rfl ?_
  exact x_calli (args := [.inr (.inr 0), .inl x3]) rfl rfl rfl k
theorem uX11_triangle_21 {d : Nat} {Q : Int → yM → Prop} {M : yM} {x1 : Int} {x2 : Int} {x3 : Int} {x4 : Int} {s0 : Int} (h1 : -2147483648 ≤ s0 ∧ s0 < 2147483648) (kt : s0 = 0 → XW kX11_triangle d (some .int) (wQi Q) 32 [some (.inr (.inr 0)), some (.inl x1), some (.inl x2), some (.inl x3), some (.inl x4), none] [] M) (kf : s0 ≠ 0 → XW kX11_triangle d (some .int) (wQi Q) 24 [some (.inr (.inr 0)), some (.inl x1), some (.inl x2), some (.inl x3), some (.inl x4), none] [] M) : XW kX11_triangle d (some .int) (wQi Q) 21 [some (.inr (.inr 0)), some (.inl x1), some (.inl x2), some (.inl x3), some (.inl x4), none] [.inl s0] M := by
  exact x_ifeq rfl h1 kt kf
theorem uX11_triangle_24 {d : Nat} {Q : Int → yM → Prop} {M : yM} {x1 : Int} {x2 : Int} {x3 : Int} {x4 : Int} (k : XCi d 110 [.inl x4] M (fun v M' => XW kX11_triangle (d + 1) (some .int) (wQi Q) 29 [some (.inr (.inr 0)), some (.inl x1), some (.inl x2), some (.inl x3), some (.inl x4), none] [.inl v] M')) : XW kX11_triangle (d + 1) (some .int) (wQi Q) 24 [some (.inr (.inr 0)), some (.inl x1), some (.inl x2), some (.inl x3), some (.inl x4), none] [] M := by
  refine x_iload rfl rfl ?_
  exact x_calli (args := [.inl x4]) rfl rfl rfl k
theorem uX11_triangle_29 {d : Nat} {Q : Int → yM → Prop} {M : yM} {x1 : Int} {x2 : Int} {x3 : Int} {x4 : Int} {s0 : Int} (h1 : -2147483648 ≤ s0 ∧ s0 < 2147483648) (kt : s0 ≠ 0 → XW kX11_triangle d (some .int) (wQi Q) 34 [some (.inr (.inr 0)), some (.inl x1), some (.inl x2), some (.inl x3), some (.inl x4), none] [] M) (kf : s0 = 0 → XW kX11_triangle d (some .int) (wQi Q) 32 [some (.inr (.inr 0)), some (.inl x1), some (.inl x2), some (.inl x3), some (.inl x4), none] [] M) : XW kX11_triangle d (some .int) (wQi Q) 29 [some (.inr (.inr 0)), some (.inl x1), some (.inl x2), some (.inl x3), some (.inl x4), none] [.inl s0] M := by
  exact x_ifne rfl h1 kt kf
theorem uX11_triangle_32 {d : Nat} {Q : Int → yM → Prop} {M : yM} {x1 : Int} {x2 : Int} {x3 : Int} {x4 : Int} (k : Q (-1) M) : XW kX11_triangle d (some .int) (wQi Q) 32 [some (.inr (.inr 0)), some (.inl x1), some (.inl x2), some (.inl x3), some (.inl x4), none] [] M := by
  refine x_iconst (-1) rfl (by decide) ?_
  exact x_ireturn rfl k
theorem uX11_triangle_34 {d : Nat} {Q : Int → yM → Prop} {M : yM} {x1 : Int} {x2 : Int} {x3 : Int} {x4 : Int} (k : XCi d 65 [.inr (.inr 1), .inl x1, .inl x2, .inl x3] M (fun v M' => XW kX11_triangle (d + 1) (some .int) (wQi Q) 44 [some (.inr (.inr 0)), some (.inl x1), some (.inl x2), some (.inl x3), some (.inl x4), none] [.inl v] M')) : XW kX11_triangle (d + 1) (some .int) (wQi Q) 34 [some (.inr (.inr 0)), some (.inl x1), some (.inl x2), some (.inl x3), some (.inl x4), none] [] M := by
  refine x_aload_n rfl rfl ?_
  refine x_getR rfl sh0 rfl ?_
  refine x_iload_n rfl rfl ?_
  refine x_iload_n rfl rfl ?_
  refine x_iload_n rfl rfl ?_
  exact x_calli (args := [.inr (.inr 1), .inl x1, .inl x2, .inl x3]) rfl rfl rfl k
theorem uX11_triangle_44 {d : Nat} {Q : Int → yM → Prop} {M : yM} {x1 : Int} {x2 : Int} {x3 : Int} {x4 : Int} {s0 : Int} (h1 : -2147483648 ≤ s0 ∧ s0 < 2147483648) (kt : s0 = 0 → XW kX11_triangle d (some .int) (wQi Q) 51 [some (.inr (.inr 0)), some (.inl x1), some (.inl x2), some (.inl x3), some (.inl x4), none] [] M) (kf : s0 ≠ 0 → XW kX11_triangle d (some .int) (wQi Q) 47 [some (.inr (.inr 0)), some (.inl x1), some (.inl x2), some (.inl x3), some (.inl x4), none] [] M) : XW kX11_triangle d (some .int) (wQi Q) 44 [some (.inr (.inr 0)), some (.inl x1), some (.inl x2), some (.inl x3), some (.inl x4), none] [.inl s0] M := by
  exact x_ifeq rfl h1 kt kf
theorem uX11_triangle_47 {d : Nat} {Q : Int → yM → Prop} {M : yM} {x1 : Int} {x2 : Int} {x3 : Int} {x4 : Int} (k : XW kX11_triangle d (some .int) (wQi Q) 52 [some (.inr (.inr 0)), some (.inl x1), some (.inl x2), some (.inl x3), some (.inl x4), none] [.inl 1] M) : XW kX11_triangle d (some .int) (wQi Q) 47 [some (.inr (.inr 0)), some (.inl x1), some (.inl x2), some (.inl x3), some (.inl x4), none] [] M := by
  refine x_iconst 1 rfl (by decide) ?_
  exact x_goto rfl k
theorem uX11_triangle_51 {d : Nat} {Q : Int → yM → Prop} {M : yM} {x1 : Int} {x2 : Int} {x3 : Int} {x4 : Int} (k : XW kX11_triangle d (some .int) (wQi Q) 52 [some (.inr (.inr 0)), some (.inl x1), some (.inl x2), some (.inl x3), some (.inl x4), none] [.inl 0] M) : XW kX11_triangle d (some .int) (wQi Q) 51 [some (.inr (.inr 0)), some (.inl x1), some (.inl x2), some (.inl x3), some (.inl x4), none] [] M := by
  refine x_iconst 0 rfl (by decide) ?_
  exact k
theorem uX11_triangle_52 {d : Nat} {Q : Int → yM → Prop} {M : yM} {x1 : Int} {x2 : Int} {x3 : Int} {x4 : Int} {s0 : Int} (h1 : -2147483648 ≤ s0 ∧ s0 < 2147483648) (h2 : -2147483648 ≤ x4 ∧ x4 < 2147483648) (kt : s0 = x4 → XW kX11_triangle d (some .int) (wQi Q) 86 [some (.inr (.inr 0)), some (.inl x1), some (.inl x2), some (.inl x3), some (.inl x4), some (.inl s0)] [] M) (kf : s0 ≠ x4 → XW kX11_triangle d (some .int) (wQi Q) 61 [some (.inr (.inr 0)), some (.inl x1), some (.inl x2), some (.inl x3), some (.inl x4), some (.inl s0)] [] M) : XW kX11_triangle d (some .int) (wQi Q) 52 [some (.inr (.inr 0)), some (.inl x1), some (.inl x2), some (.inl x3), some (.inl x4), none] [.inl s0] M := by
  refine x_istore rfl (Nat.le_of_ble_eq_true rfl) rfl ?_
  refine x_iload rfl rfl ?_
  refine x_iload rfl rfl ?_
  exact x_icmpeq rfl h1 h2 kt kf
theorem uX11_triangle_61 {d : Nat} {Q : Int → yM → Prop} {M : yM} {x1 : Int} {x2 : Int} {x3 : Int} {x4 : Int} {x5 : Int} (h1 : -2147483648 ≤ x4 ∧ x4 < 2147483648) (kt : x4 ≠ 1 → XW kX11_triangle d (some .int) (wQi Q) 78 [some (.inr (.inr 0)), some (.inl x1), some (.inl x2), some (.inl x3), some (.inl x4), some (.inl x5)] [.inl x3, .inl x2, .inl x1, .inr (.inr 1)] M) (kf : x4 = 1 → XW kX11_triangle d (some .int) (wQi Q) 74 [some (.inr (.inr 0)), some (.inl x1), some (.inl x2), some (.inl x3), some (.inl x4), some (.inl x5)] [.inl x3, .inl x2, .inl x1, .inr (.inr 1)] M) : XW kX11_triangle d (some .int) (wQi Q) 61 [some (.inr (.inr 0)), some (.inl x1), some (.inl x2), some (.inl x3), some (.inl x4), some (.inl x5)] [] M := by
  refine x_aload_n rfl rfl ?_
  refine x_getR rfl sh0 rfl ?_
  refine x_iload_n rfl rfl ?_
  refine x_iload_n rfl rfl ?_
  refine x_iload_n rfl rfl ?_
  refine x_iload rfl rfl ?_
  refine x_iconst 1 rfl (by decide) ?_
  exact x_icmpne rfl h1 (by decide) kt kf
theorem uX11_triangle_74 {d : Nat} {Q : Int → yM → Prop} {M : yM} {x1 : Int} {x2 : Int} {x3 : Int} {x4 : Int} {x5 : Int} {s0 : Int} {s1 : Int} {s2 : Int} (k : XW kX11_triangle d (some .int) (wQi Q) 79 [some (.inr (.inr 0)), some (.inl x1), some (.inl x2), some (.inl x3), some (.inl x4), some (.inl x5)] [.inl 1, .inl s0, .inl s1, .inl s2, .inr (.inr 1)] M) : XW kX11_triangle d (some .int) (wQi Q) 74 [some (.inr (.inr 0)), some (.inl x1), some (.inl x2), some (.inl x3), some (.inl x4), some (.inl x5)] [.inl s0, .inl s1, .inl s2, .inr (.inr 1)] M := by
  refine x_iconst 1 rfl (by decide) ?_
  exact x_goto rfl k
theorem uX11_triangle_78 {d : Nat} {Q : Int → yM → Prop} {M : yM} {x1 : Int} {x2 : Int} {x3 : Int} {x4 : Int} {x5 : Int} {s0 : Int} {s1 : Int} {s2 : Int} (k : XW kX11_triangle d (some .int) (wQi Q) 79 [some (.inr (.inr 0)), some (.inl x1), some (.inl x2), some (.inl x3), some (.inl x4), some (.inl x5)] [.inl 0, .inl s0, .inl s1, .inl s2, .inr (.inr 1)] M) : XW kX11_triangle d (some .int) (wQi Q) 78 [some (.inr (.inr 0)), some (.inl x1), some (.inl x2), some (.inl x3), some (.inl x4), some (.inl x5)] [.inl s0, .inl s1, .inl s2, .inr (.inr 1)] M := by
  refine x_iconst 0 rfl (by decide) ?_
  exact k
theorem uX11_triangle_79 {d : Nat} {Q : Int → yM → Prop} {M : yM} {x1 : Int} {x2 : Int} {x3 : Int} {x4 : Int} {x5 : Int} {s0 : Int} {s1 : Int} {s2 : Int} {s3 : Int} (k : XCv d 66 [.inr (.inr 1), .inl s3, .inl s2, .inl s1, .inl s0] M (fun M' => XW kX11_triangle (d + 1) (some .int) (wQi Q) 82 [some (.inr (.inr 0)), some (.inl x1), some (.inl x2), some (.inl x3), some (.inl x4), some (.inl x5)] [] M')) : XW kX11_triangle (d + 1) (some .int) (wQi Q) 79 [some (.inr (.inr 0)), some (.inl x1), some (.inl x2), some (.inl x3), some (.inl x4), some (.inl x5)] [.inl s0, .inl s1, .inl s2, .inl s3, .inr (.inr 1)] M := by
  exact x_callv (args := [.inr (.inr 1), .inl s3, .inl s2, .inl s1, .inl s0]) rfl rfl rfl k
theorem uX11_triangle_82 {d : Nat} {Q : Int → yM → Prop} {M : yM} {x1 : Int} {x2 : Int} {x3 : Int} {x4 : Int} {x5 : Int} (k : XCv d 114 [.inr (.inr 0)] M (fun M' => XW kX11_triangle (d + 1) (some .int) (wQi Q) 86 [some (.inr (.inr 0)), some (.inl x1), some (.inl x2), some (.inl x3), some (.inl x4), some (.inl x5)] [] M')) : XW kX11_triangle (d + 1) (some .int) (wQi Q) 82 [some (.inr (.inr 0)), some (.inl x1), some (.inl x2), some (.inl x3), some (.inl x4), some (.inl x5)] [] M := by
  refine x_aload_n rfl rfl ?_
  exact x_callv (args := [.inr (.inr 0)]) rfl rfl rfl k
theorem uX11_triangle_86 {d : Nat} {Q : Int → yM → Prop} {M : yM} {x1 : Int} {x2 : Int} {x3 : Int} {x4 : Int} {x5 : Int} (k : Q x5 M) : XW kX11_triangle d (some .int) (wQi Q) 86 [some (.inr (.inr 0)), some (.inl x1), some (.inl x2), some (.inl x3), some (.inl x4), some (.inl x5)] [] M := by
  refine x_iload rfl rfl ?_
  exact x_ireturn rfl k
theorem eX11_join {d : Nat} {Q : Int → yM → Prop} {M : yM} {x1 : Int} {x2 : Int}  (h : XW kX11_join d (some .int) (wQi Q) 0 [some (.inr (.inr 0)), some (.inl x1), some (.inl x2)] [] M) : XCi d 87 [.inr (.inr 0), .inl x1, .inl x2] M Q :=
  XC.ofW (Mm := (yX11_join, cX11_join, 3, (some .int), 12, kX11_join)) rfl (rcv_ok sh0) rfl rfl h
theorem uX11_join_0 {d : Nat} {Q : Int → yM → Prop} {M : yM} {x1 : Int} {x2 : Int} (k : XCi d 61 [.inr (.inr 1), .inl x1] M (fun v M' => XW kX11_join (d + 1) (some .int) (wQi Q) 8 [some (.inr (.inr 0)), some (.inl x1), some (.inl x2)] [.inl v] M')) : XW kX11_join (d + 1) (some .int) (wQi Q) 0 [some (.inr (.inr 0)), some (.inl x1), some (.inl x2)] [] M := by
  refine x_aload_n rfl rfl ?_
  refine x_getR rfl sh0 rfl ?_
  refine x_iload_n rfl rfl ?_
  exact x_calli (args := [.inr (.inr 1), .inl x1]) rfl rfl rfl k
theorem uX11_join_8 {d : Nat} {Q : Int → yM → Prop} {M : yM} {x1 : Int} {x2 : Int} {s0 : Int} (h1 : -2147483648 ≤ s0 ∧ s0 < 2147483648) (kt : s0 = 0 → XW kX11_join d (some .int) (wQi Q) 22 [some (.inr (.inr 0)), some (.inl x1), some (.inl x2)] [] M) (kf : s0 ≠ 0 → XW kX11_join d (some .int) (wQi Q) 11 [some (.inr (.inr 0)), some (.inl x1), some (.inl x2)] [] M) : XW kX11_join d (some .int) (wQi Q) 8 [some (.inr (.inr 0)), some (.inl x1), some (.inl x2)] [.inl s0] M := by
  exact x_ifeq rfl h1 kt kf
theorem uX11_join_11 {d : Nat} {Q : Int → yM → Prop} {M : yM} {x1 : Int} {x2 : Int} (k : XCi d 61 [.inr (.inr 1), .inl x2] M (fun v M' => XW kX11_join (d + 1) (some .int) (wQi Q) 19 [some (.inr (.inr 0)), some (.inl x1), some (.inl x2)] [.inl v] M')) : XW kX11_join (d + 1) (some .int) (wQi Q) 11 [some (.inr (.inr 0)), some (.inl x1), some (.inl x2)] [] M := by
  refine x_aload_n rfl rfl ?_
  refine x_getR rfl sh0 rfl ?_
  refine x_iload_n rfl rfl ?_
  exact x_calli (args := [.inr (.inr 1), .inl x2]) rfl rfl rfl k
theorem uX11_join_19 {d : Nat} {Q : Int → yM → Prop} {M : yM} {x1 : Int} {x2 : Int} {s0 : Int} (h1 : -2147483648 ≤ s0 ∧ s0 < 2147483648) (kt : s0 ≠ 0 → XW kX11_join d (some .int) (wQi Q) 24 [some (.inr (.inr 0)), some (.inl x1), some (.inl x2)] [] M) (kf : s0 = 0 → XW kX11_join d (some .int) (wQi Q) 22 [some (.inr (.inr 0)), some (.inl x1), some (.inl x2)] [] M) : XW kX11_join d (some .int) (wQi Q) 19 [some (.inr (.inr 0)), some (.inl x1), some (.inl x2)] [.inl s0] M := by
  exact x_ifne rfl h1 kt kf
theorem uX11_join_22 {d : Nat} {Q : Int → yM → Prop} {M : yM} {x1 : Int} {x2 : Int} (k : Q (-1) M) : XW kX11_join d (some .int) (wQi Q) 22 [some (.inr (.inr 0)), some (.inl x1), some (.inl x2)] [] M := by
  refine x_iconst (-1) rfl (by decide) ?_
  exact x_ireturn rfl k
theorem uX11_join_24 {d : Nat} {Q : Int → yM → Prop} {M : yM} {x1 : Int} {x2 : Int} (k : XCi d 71 [.inr (.inr 1), .inl x1, .inl x2] M (fun v M' => XW kX11_join (d + 1) (some .int) (wQi Q) 33 [some (.inr (.inr 0)), some (.inl x1), some (.inl x2)] [.inl v] M')) : XW kX11_join (d + 1) (some .int) (wQi Q) 24 [some (.inr (.inr 0)), some (.inl x1), some (.inl x2)] [] M := by
  refine x_aload_n rfl rfl ?_
  refine x_getR rfl sh0 rfl ?_
  refine x_iload_n rfl rfl ?_
  refine x_iload_n rfl rfl ?_
  exact x_calli (args := [.inr (.inr 1), .inl x1, .inl x2]) rfl rfl rfl k
theorem uX11_join_33 {d : Nat} {Q : Int → yM → Prop} {M : yM} {x1 : Int} {x2 : Int} {s0 : Int} (k : Q s0 M) : XW kX11_join d (some .int) (wQi Q) 33 [some (.inr (.inr 0)), some (.inl x1), some (.inl x2)] [.inl s0] M := by
  exact x_ireturn rfl k
theorem eX11_turned {d : Nat} {Q : Int → yM → Prop} {M : yM} {x1 : Int}  (h : XW kX11_turned d (some .int) (wQi Q) 0 [some (.inr (.inr 0)), some (.inl x1)] [] M) : XCi d 88 [.inr (.inr 0), .inl x1] M Q :=
  XC.ofW (Mm := (yX11_turned, cX11_turned, 2, (some .int), 12, kX11_turned)) rfl (rcv_ok sh0) rfl rfl h
theorem uX11_turned_0 {d : Nat} {Q : Int → yM → Prop} {M : yM} {x1 : Int} (k : XCi d 61 [.inr (.inr 1), .inl x1] M (fun v M' => XW kX11_turned (d + 1) (some .int) (wQi Q) 8 [some (.inr (.inr 0)), some (.inl x1)] [.inl v] M')) : XW kX11_turned (d + 1) (some .int) (wQi Q) 0 [some (.inr (.inr 0)), some (.inl x1)] [] M := by
  refine x_aload_n rfl rfl ?_
  refine x_getR rfl sh0 rfl ?_
  refine x_iload_n rfl rfl ?_
  exact x_calli (args := [.inr (.inr 1), .inl x1]) rfl rfl rfl k
theorem uX11_turned_8 {d : Nat} {Q : Int → yM → Prop} {M : yM} {x1 : Int} {s0 : Int} (h1 : -2147483648 ≤ s0 ∧ s0 < 2147483648) (kt : s0 ≠ 0 → XW kX11_turned d (some .int) (wQi Q) 13 [some (.inr (.inr 0)), some (.inl x1)] [] M) (kf : s0 = 0 → XW kX11_turned d (some .int) (wQi Q) 11 [some (.inr (.inr 0)), some (.inl x1)] [] M) : XW kX11_turned d (some .int) (wQi Q) 8 [some (.inr (.inr 0)), some (.inl x1)] [.inl s0] M := by
  exact x_ifne rfl h1 kt kf
theorem uX11_turned_11 {d : Nat} {Q : Int → yM → Prop} {M : yM} {x1 : Int} (k : Q (-1) M) : XW kX11_turned d (some .int) (wQi Q) 11 [some (.inr (.inr 0)), some (.inl x1)] [] M := by
  refine x_iconst (-1) rfl (by decide) ?_
  exact x_ireturn rfl k
theorem uX11_turned_13 {d : Nat} {Q : Int → yM → Prop} {M : yM} {x1 : Int} (k : XCi d 70 [.inr (.inr 1), .inl x1] M (fun v M' => XW kX11_turned (d + 1) (some .int) (wQi Q) 21 [some (.inr (.inr 0)), some (.inl x1)] [.inl v] M')) : XW kX11_turned (d + 1) (some .int) (wQi Q) 13 [some (.inr (.inr 0)), some (.inl x1)] [] M := by
  refine x_aload_n rfl rfl ?_
  refine x_getR rfl sh0 rfl ?_
  refine x_iload_n rfl rfl ?_
  exact x_calli (args := [.inr (.inr 1), .inl x1]) rfl rfl rfl k
theorem uX11_turned_21 {d : Nat} {Q : Int → yM → Prop} {M : yM} {x1 : Int} {s0 : Int} (k : Q s0 M) : XW kX11_turned d (some .int) (wQi Q) 21 [some (.inr (.inr 0)), some (.inl x1)] [.inl s0] M := by
  exact x_ireturn rfl k
theorem eX11_fault {d : Nat} {Q : Int → yM → Prop} {M : yM}   (h : XW kX11_fault d (some .int) (wQi Q) 0 [some (.inr (.inr 0))] [] M) : XCi d 89 [.inr (.inr 0)] M Q :=
  XC.ofW (Mm := (yX11_fault, cX11_fault, 1, (some .int), 12, kX11_fault)) rfl (rcv_ok sh0) rfl rfl h
theorem uX11_fault_0 {d : Nat} {Q : Int → yM → Prop} {M : yM}  (k : XCi d 72 [.inr (.inr 1)] M (fun v M' => XW kX11_fault (d + 1) (some .int) (wQi Q) 7 [some (.inr (.inr 0))] [.inl v] M')) : XW kX11_fault (d + 1) (some .int) (wQi Q) 0 [some (.inr (.inr 0))] [] M := by
  refine x_aload_n rfl rfl ?_
  refine x_getR rfl sh0 rfl ?_
  exact x_calli (args := [.inr (.inr 1)]) rfl rfl rfl k
theorem uX11_fault_7 {d : Nat} {Q : Int → yM → Prop} {M : yM} {s0 : Int} (k : Q s0 M) : XW kX11_fault d (some .int) (wQi Q) 7 [some (.inr (.inr 0))] [.inl s0] M := by
  exact x_ireturn rfl k
theorem eX11_fuse {d : Nat} {Q : Int → yM → Prop} {M : yM} {x1 : Int} {x2 : Int}  (h : XW kX11_fuse d (some .int) (wQi Q) 0 [some (.inr (.inr 0)), some (.inl x1), some (.inl x2)] [] M) : XCi d 90 [.inr (.inr 0), .inl x1, .inl x2] M Q :=
  XC.ofW (Mm := (yX11_fuse, cX11_fuse, 3, (some .int), 12, kX11_fuse)) rfl (rcv_ok sh0) rfl rfl h
theorem uX11_fuse_0 {d : Nat} {Q : Int → yM → Prop} {M : yM} {x1 : Int} {x2 : Int} (k : XCi d 109 [.inr (.inr 0), .inl x1] M (fun v M' => XW kX11_fuse (d + 1) (some .int) (wQi Q) 5 [some (.inr (.inr 0)), some (.inl x1), some (.inl x2)] [.inl v] M')) : XW kX11_fuse (d + 1) (some .int) (wQi Q) 0 [some (.inr (.inr 0)), some (.inl x1), some (.inl x2)] [] M := by
  refine x_aload_n rfl rfl ?_
  refine x_iload_n rfl rfl ?_
  exact x_calli (args := [.inr (.inr 0), .inl x1]) rfl rfl rfl k
theorem uX11_fuse_5 {d : Nat} {Q : Int → yM → Prop} {M : yM} {x1 : Int} {x2 : Int} {s0 : Int} (h1 : -2147483648 ≤ s0 ∧ s0 < 2147483648) (kt : s0 = 0 → XW kX11_fuse d (some .int) (wQi Q) 21 [some (.inr (.inr 0)), some (.inl x1), some (.inl x2)] [] M) (kf : s0 ≠ 0 → XW kX11_fuse d (some .int) (wQi Q) 8 [some (.inr (.inr 0)), some (.inl x1), some (.inl x2)] [] M) : XW kX11_fuse d (some .int) (wQi Q) 5 [some (.inr (.inr 0)), some (.inl x1), some (.inl x2)] [.inl s0] M := by
  exact x_ifeq rfl h1 kt kf
theorem uX11_fuse_8 {d : Nat} {Q : Int → yM → Prop} {M : yM} {x1 : Int} {x2 : Int} (k : XCi d 109 [.inr (.inr 0), .inl x2] M (fun v M' => XW kX11_fuse (d + 1) (some .int) (wQi Q) 13 [some (.inr (.inr 0)), some (.inl x1), some (.inl x2)] [.inl v] M')) : XW kX11_fuse (d + 1) (some .int) (wQi Q) 8 [some (.inr (.inr 0)), some (.inl x1), some (.inl x2)] [] M := by
  refine x_aload_n rfl rfl ?_
  refine x_iload_n rfl rfl ?_
  exact x_calli (args := [.inr (.inr 0), .inl x2]) rfl rfl rfl k
theorem uX11_fuse_13 {d : Nat} {Q : Int → yM → Prop} {M : yM} {x1 : Int} {x2 : Int} {s0 : Int} (h1 : -2147483648 ≤ s0 ∧ s0 < 2147483648) (kt : s0 = 0 → XW kX11_fuse d (some .int) (wQi Q) 21 [some (.inr (.inr 0)), some (.inl x1), some (.inl x2)] [] M) (kf : s0 ≠ 0 → XW kX11_fuse d (some .int) (wQi Q) 16 [some (.inr (.inr 0)), some (.inl x1), some (.inl x2)] [] M) : XW kX11_fuse d (some .int) (wQi Q) 13 [some (.inr (.inr 0)), some (.inl x1), some (.inl x2)] [.inl s0] M := by
  exact x_ifeq rfl h1 kt kf
theorem uX11_fuse_16 {d : Nat} {Q : Int → yM → Prop} {M : yM} {x1 : Int} {x2 : Int} (h1 : -2147483648 ≤ x1 ∧ x1 < 2147483648) (h2 : -2147483648 ≤ x2 ∧ x2 < 2147483648) (kt : x1 ≠ x2 → XW kX11_fuse d (some .int) (wQi Q) 23 [some (.inr (.inr 0)), some (.inl x1), some (.inl x2)] [] M) (kf : x1 = x2 → XW kX11_fuse d (some .int) (wQi Q) 21 [some (.inr (.inr 0)), some (.inl x1), some (.inl x2)] [] M) : XW kX11_fuse d (some .int) (wQi Q) 16 [some (.inr (.inr 0)), some (.inl x1), some (.inl x2)] [] M := by
  refine x_iload_n rfl rfl ?_
  refine x_iload_n rfl rfl ?_
  exact x_icmpne rfl h1 h2 kt kf
theorem uX11_fuse_21 {d : Nat} {Q : Int → yM → Prop} {M : yM} {x1 : Int} {x2 : Int} (k : Q (-1) M) : XW kX11_fuse d (some .int) (wQi Q) 21 [some (.inr (.inr 0)), some (.inl x1), some (.inl x2)] [] M := by
  refine x_iconst (-1) rfl (by decide) ?_
  exact x_ireturn rfl k
theorem uX11_fuse_23 {d : Nat} {Q : Int → yM → Prop} {M : yM} {x1 : Int} {x2 : Int} (k : XCi d 75 [.inr (.inr 1), .inl x1, .inl x2] M (fun v M' => XW kX11_fuse (d + 1) (some .int) (wQi Q) 32 [some (.inr (.inr 0)), some (.inl x1), some (.inl x2)] [.inl v] M')) : XW kX11_fuse (d + 1) (some .int) (wQi Q) 23 [some (.inr (.inr 0)), some (.inl x1), some (.inl x2)] [] M := by
  refine x_aload_n rfl rfl ?_
  refine x_getR rfl sh0 rfl ?_
  refine x_iload_n rfl rfl ?_
  refine x_iload_n rfl rfl ?_
  exact x_calli (args := [.inr (.inr 1), .inl x1, .inl x2]) rfl rfl rfl k
theorem uX11_fuse_32 {d : Nat} {Q : Int → yM → Prop} {M : yM} {x1 : Int} {x2 : Int} {s0 : Int} (h1 : -2147483648 ≤ s0 ∧ s0 < 2147483648) (kt : s0 ≠ 0 → XW kX11_fuse d (some .int) (wQi Q) 38 [some (.inr (.inr 0)), some (.inl x1), some (.inl x2)] [] M) (kf : s0 = 0 → XW kX11_fuse d (some .int) (wQi Q) 35 [some (.inr (.inr 0)), some (.inl x1), some (.inl x2)] [] M) : XW kX11_fuse d (some .int) (wQi Q) 32 [some (.inr (.inr 0)), some (.inl x1), some (.inl x2)] [.inl s0] M := by
  exact x_ifne rfl h1 kt kf
theorem uX11_fuse_35 {d : Nat} {Q : Int → yM → Prop} {M : yM} {x1 : Int} {x2 : Int} (k : Q (-2) M) : XW kX11_fuse d (some .int) (wQi Q) 35 [some (.inr (.inr 0)), some (.inl x1), some (.inl x2)] [] M := by
  refine x_bipush (-2) rfl (by decide) ?_
  exact x_ireturn rfl k
theorem uX11_fuse_38 {d : Nat} {Q : Int → yM → Prop} {M : yM} {x1 : Int} {x2 : Int} (k : XCv d 74 [.inr (.inr 13), .inr (.inr 1)] M (fun M' => XW kX11_fuse (d + 1) (some .int) (wQi Q) 49 [some (.inr (.inr 0)), some (.inl x1), some (.inl x2)] [] M')) : XW kX11_fuse (d + 1) (some .int) (wQi Q) 38 [some (.inr (.inr 0)), some (.inl x1), some (.inl x2)] [] M := by
  refine x_aload_n rfl rfl ?_
  refine x_getR rfl sh0 rfl ?_
  refine x_aload_n rfl rfl ?_
  refine x_getR rfl sh0 rfl ?_
  exact x_callv (args := [.inr (.inr 13), .inr (.inr 1)]) rfl rfl rfl k
theorem uX11_fuse_49 {d : Nat} {Q : Int → yM → Prop} {M : yM} {x1 : Int} {x2 : Int} (k : XCv d 76 [.inr (.inr 1), .inr (.inr 13), .inl x1, .inl x2] M (fun M' => XW kX11_fuse (d + 1) (some .int) (wQi Q) 62 [some (.inr (.inr 0)), some (.inl x1), some (.inl x2)] [] M')) : XW kX11_fuse (d + 1) (some .int) (wQi Q) 49 [some (.inr (.inr 0)), some (.inl x1), some (.inl x2)] [] M := by
  refine x_aload_n rfl rfl ?_
  refine x_getR rfl sh0 rfl ?_
  refine x_aload_n rfl rfl ?_
  refine x_getR rfl sh0 rfl ?_
  refine x_iload_n rfl rfl ?_
  refine x_iload_n rfl rfl ?_
  exact x_callv (args := [.inr (.inr 1), .inr (.inr 13), .inl x1, .inl x2]) rfl rfl rfl k
theorem uX11_fuse_62 {d : Nat} {Q : Int → yM → Prop} {M : yM} {x1 : Int} {x2 : Int} (k : XCv d 113 [.inr (.inr 0)] M (fun M' => XW kX11_fuse (d + 1) (some .int) (wQi Q) 66 [some (.inr (.inr 0)), some (.inl x1), some (.inl x2)] [] M')) : XW kX11_fuse (d + 1) (some .int) (wQi Q) 62 [some (.inr (.inr 0)), some (.inl x1), some (.inl x2)] [] M := by
  refine x_aload_n rfl rfl ?_
  exact x_callv (args := [.inr (.inr 0)]) rfl rfl rfl k
theorem uX11_fuse_66 {d : Nat} {Q : Int → yM → Prop} {M : yM} {x1 : Int} {x2 : Int} (k : Q (ld M 1 0) M) : XW kX11_fuse d (some .int) (wQi Q) 66 [some (.inr (.inr 0)), some (.inl x1), some (.inl x2)] [] M := by
  refine x_aload_n rfl rfl ?_
  refine x_getR rfl sh0 rfl ?_
  refine x_getI rfl sh1 rfl ?_
  exact x_ireturn rfl k
theorem eX11_keep {d : Nat} {Q : Int → yM → Prop} {M : yM}   (h : XW kX11_keep d (some .int) (wQi Q) 0 [some (.inr (.inr 0))] [] M) : XCi d 91 [.inr (.inr 0)] M Q :=
  XC.ofW (Mm := (yX11_keep, cX11_keep, 1, (some .int), 12, kX11_keep)) rfl (rcv_ok sh0) rfl rfl h
theorem uX11_keep_0 {d : Nat} {Q : Int → yM → Prop} {M : yM}  (k : XCv d 74 [.inr (.inr 7), .inr (.inr 1)] M (fun M' => XW kX11_keep (d + 1) (some .int) (wQi Q) 11 [some (.inr (.inr 0))] [] M')) : XW kX11_keep (d + 1) (some .int) (wQi Q) 0 [some (.inr (.inr 0))] [] M := by
  refine x_aload_n rfl rfl ?_
  refine x_getR rfl sh0 rfl ?_
  refine x_aload_n rfl rfl ?_
  refine x_getR rfl sh0 rfl ?_
  exact x_callv (args := [.inr (.inr 7), .inr (.inr 1)]) rfl rfl rfl k
theorem uX11_keep_11 {d : Nat} {Q : Int → yM → Prop} {M : yM}  (k : Q (ld M 7 0) M) : XW kX11_keep d (some .int) (wQi Q) 11 [some (.inr (.inr 0))] [] M := by
  refine x_aload_n rfl rfl ?_
  refine x_getR rfl sh0 rfl ?_
  refine x_getI rfl sh7 rfl ?_
  exact x_ireturn rfl k
theorem eX11_shelf {d : Nat} {Q : Int → yM → Prop} {M : yM} {x1 : Int}  (h : XW kX11_shelf d (some .int) (wQi Q) 0 [some (.inr (.inr 0)), some (.inl x1)] [] M) : XCi d 92 [.inr (.inr 0), .inl x1] M Q :=
  XC.ofW (Mm := (yX11_shelf, cX11_shelf, 2, (some .int), 12, kX11_shelf)) rfl (rcv_ok sh0) rfl rfl h
theorem uX11_shelf_0 {d : Nat} {Q : Int → yM → Prop} {M : yM} {x1 : Int} (k : XCi d 110 [.inl x1] M (fun v M' => XW kX11_shelf (d + 1) (some .int) (wQi Q) 4 [some (.inr (.inr 0)), some (.inl x1)] [.inl v] M')) : XW kX11_shelf (d + 1) (some .int) (wQi Q) 0 [some (.inr (.inr 0)), some (.inl x1)] [] M := by
  refine x_iload_n rfl rfl ?_
  exact x_calli (args := [.inl x1]) rfl rfl rfl k
theorem uX11_shelf_4 {d : Nat} {Q : Int → yM → Prop} {M : yM} {x1 : Int} {s0 : Int} (h1 : -2147483648 ≤ s0 ∧ s0 < 2147483648) (kt : s0 ≠ 0 → XW kX11_shelf d (some .int) (wQi Q) 9 [some (.inr (.inr 0)), some (.inl x1)] [] M) (kf : s0 = 0 → XW kX11_shelf d (some .int) (wQi Q) 7 [some (.inr (.inr 0)), some (.inl x1)] [] M) : XW kX11_shelf d (some .int) (wQi Q) 4 [some (.inr (.inr 0)), some (.inl x1)] [.inl s0] M := by
  exact x_ifne rfl h1 kt kf
theorem uX11_shelf_7 {d : Nat} {Q : Int → yM → Prop} {M : yM} {x1 : Int} (k : Q (-1) M) : XW kX11_shelf d (some .int) (wQi Q) 7 [some (.inr (.inr 0)), some (.inl x1)] [] M := by
  refine x_iconst (-1) rfl (by decide) ?_
  exact x_ireturn rfl k
theorem uX11_shelf_9 {d : Nat} {Q : Int → yM → Prop} {M : yM} {x1 : Int} (kt : (ld M 7 0) ≠ 0 → XW kX11_shelf d (some .int) (wQi Q) 22 [some (.inr (.inr 0)), some (.inl x1)] [] M) (kf : (ld M 7 0) = 0 → XW kX11_shelf d (some .int) (wQi Q) 19 [some (.inr (.inr 0)), some (.inl x1)] [] M) : XW kX11_shelf d (some .int) (wQi Q) 9 [some (.inr (.inr 0)), some (.inl x1)] [] M := by
  refine x_aload_n rfl rfl ?_
  refine x_getR rfl sh0 rfl ?_
  refine x_getI rfl sh7 rfl ?_
  exact x_ifne rfl (rng_ld _ _ _) kt kf
theorem uX11_shelf_19 {d : Nat} {Q : Int → yM → Prop} {M : yM} {x1 : Int} (k : Q (-2) M) : XW kX11_shelf d (some .int) (wQi Q) 19 [some (.inr (.inr 0)), some (.inl x1)] [] M := by
  refine x_bipush (-2) rfl (by decide) ?_
  exact x_ireturn rfl k
theorem uX11_shelf_22 {d : Nat} {Q : Int → yM → Prop} {M : yM} {x1 : Int} (h1 : -2147483648 ≤ x1 ∧ x1 < 2147483648) (kt : x1 ≠ 0 → XW kX11_shelf d (some .int) (wQi Q) 40 [some (.inr (.inr 0)), some (.inl x1)] [] M) (kf : x1 = 0 → XW kX11_shelf d (some .int) (wQi Q) 26 [some (.inr (.inr 0)), some (.inl x1)] [] M) : XW kX11_shelf d (some .int) (wQi Q) 22 [some (.inr (.inr 0)), some (.inl x1)] [] M := by
  refine x_iload_n rfl rfl ?_
  exact x_ifne rfl h1 kt kf
theorem uX11_shelf_26 {d : Nat} {Q : Int → yM → Prop} {M : yM} {x1 : Int} (k : XCv d 74 [.inr (.inr 1), .inr (.inr 7)] M (fun M' => XW kX11_shelf (d + 1) (some .int) (wQi Q) 37 [some (.inr (.inr 0)), some (.inl x1)] [] M')) : XW kX11_shelf (d + 1) (some .int) (wQi Q) 26 [some (.inr (.inr 0)), some (.inl x1)] [] M := by
  refine x_aload_n rfl rfl ?_
  refine x_getR rfl sh0 rfl ?_
  refine x_aload_n rfl rfl ?_
  refine x_getR rfl sh0 rfl ?_
  exact x_callv (args := [.inr (.inr 1), .inr (.inr 7)]) rfl rfl rfl k
theorem uX11_shelf_37 {d : Nat} {Q : Int → yM → Prop} {M : yM} {x1 : Int} (k : XW kX11_shelf d (some .int) (wQi Q) 89 [some (.inr (.inr 0)), some (.inl x1)] [] M) : XW kX11_shelf d (some .int) (wQi Q) 37 [some (.inr (.inr 0)), some (.inl x1)] [] M := by
  exact x_goto rfl k
theorem uX11_shelf_40 {d : Nat} {Q : Int → yM → Prop} {M : yM} {x1 : Int} (h1 : -2147483648 ≤ ((ld M 1 0) * (ld M 7 0)) ∧ ((ld M 1 0) * (ld M 7 0)) < 2147483648) (kt : ((ld M 1 0) * (ld M 7 0)) ≤ 8 → XW kX11_shelf d (some .int) (wQi Q) 63 [some (.inr (.inr 0)), some (.inl x1)] [] M) (kf : ((ld M 1 0) * (ld M 7 0)) > 8 → XW kX11_shelf d (some .int) (wQi Q) 60 [some (.inr (.inr 0)), some (.inl x1)] [] M) : XW kX11_shelf d (some .int) (wQi Q) 40 [some (.inr (.inr 0)), some (.inl x1)] [] M := by
  refine x_aload_n rfl rfl ?_
  refine x_getR rfl sh0 rfl ?_
  refine x_getI rfl sh1 rfl ?_
  refine x_aload_n rfl rfl ?_
  refine x_getR rfl sh0 rfl ?_
  refine x_getI rfl sh7 rfl ?_
  refine x_imul rfl ?_
  refine x_bipush 8 rfl (by decide) ?_
  exact x_icmple rfl h1 (by decide) kt kf
theorem uX11_shelf_60 {d : Nat} {Q : Int → yM → Prop} {M : yM} {x1 : Int} (k : Q (-3) M) : XW kX11_shelf d (some .int) (wQi Q) 60 [some (.inr (.inr 0)), some (.inl x1)] [] M := by
  refine x_bipush (-3) rfl (by decide) ?_
  exact x_ireturn rfl k
theorem uX11_shelf_63 {d : Nat} {Q : Int → yM → Prop} {M : yM} {x1 : Int} (k : XCv d 74 [.inr (.inr 13), .inr (.inr 1)] M (fun M' => XW kX11_shelf (d + 1) (some .int) (wQi Q) 74 [some (.inr (.inr 0)), some (.inl x1)] [] M')) : XW kX11_shelf (d + 1) (some .int) (wQi Q) 63 [some (.inr (.inr 0)), some (.inl x1)] [] M := by
  refine x_aload_n rfl rfl ?_
  refine x_getR rfl sh0 rfl ?_
  refine x_aload_n rfl rfl ?_
  refine x_getR rfl sh0 rfl ?_
  exact x_callv (args := [.inr (.inr 13), .inr (.inr 1)]) rfl rfl rfl k
theorem uX11_shelf_74 {d : Nat} {Q : Int → yM → Prop} {M : yM} {x1 : Int} (k : XCv d 78 [.inr (.inr 1), .inr (.inr 13), .inr (.inr 7)] M (fun M' => XW kX11_shelf (d + 1) (some .int) (wQi Q) 89 [some (.inr (.inr 0)), some (.inl x1)] [] M')) : XW kX11_shelf (d + 1) (some .int) (wQi Q) 74 [some (.inr (.inr 0)), some (.inl x1)] [] M := by
  refine x_aload_n rfl rfl ?_
  refine x_getR rfl sh0 rfl ?_
  refine x_aload_n rfl rfl ?_
  refine x_getR rfl sh0 rfl ?_
  refine x_aload_n rfl rfl ?_
  refine x_getR rfl sh0 rfl ?_
  exact x_callv (args := [.inr (.inr 1), .inr (.inr 13), .inr (.inr 7)]) rfl rfl rfl k
theorem uX11_shelf_89 {d : Nat} {Q : Int → yM → Prop} {M : yM} {x1 : Int} (k : XCv d 113 [.inr (.inr 0)] M (fun M' => XW kX11_shelf (d + 1) (some .int) (wQi Q) 93 [some (.inr (.inr 0)), some (.inl x1)] [] M')) : XW kX11_shelf (d + 1) (some .int) (wQi Q) 89 [some (.inr (.inr 0)), some (.inl x1)] [] M := by
  refine x_aload_n rfl rfl ?_
  exact x_callv (args := [.inr (.inr 0)]) rfl rfl rfl k
theorem uX11_shelf_93 {d : Nat} {Q : Int → yM → Prop} {M : yM} {x1 : Int} (k : Q (ld M 1 0) M) : XW kX11_shelf d (some .int) (wQi Q) 93 [some (.inr (.inr 0)), some (.inl x1)] [] M := by
  refine x_aload_n rfl rfl ?_
  refine x_getR rfl sh0 rfl ?_
  refine x_getI rfl sh1 rfl ?_
  exact x_ireturn rfl k
