theorem eX11_points {d : Nat} {Q : Int → yM → Prop} {M : yM} {x1 : Int}  (h : XW kX11_points d (some .int) (wQi Q) 0 [some (.inr (.inr 0)), some (.inl x1), none] [] M) : XCi d 93 [.inr (.inr 0), .inl x1] M Q :=
  XC.ofW (Mm := (yX11_points, cX11_points, 3, (some .int), 12, kX11_points)) rfl (rcv_ok sh0) rfl rfl h
theorem uX11_points_0 {d : Nat} {Q : Int → yM → Prop} {M : yM} {x1 : Int} (h1 : -2147483648 ≤ x1 ∧ x1 < 2147483648) (kt : x1 < 1 → XW kX11_points d (some .int) (wQi Q) 11 [some (.inr (.inr 0)), some (.inl x1), none] [] M) (kf : x1 ≥ 1 → XW kX11_points d (some .int) (wQi Q) 5 [some (.inr (.inr 0)), some (.inl x1), none] [] M) : XW kX11_points d (some .int) (wQi Q) 0 [some (.inr (.inr 0)), some (.inl x1), none] [] M := by
  refine x_iload_n rfl rfl ?_
  refine x_iconst 1 rfl (by decide) ?_
  exact x_icmplt rfl h1 (by decide) kt kf
theorem uX11_points_5 {d : Nat} {Q : Int → yM → Prop} {M : yM} {x1 : Int} (h1 : -2147483648 ≤ x1 ∧ x1 < 2147483648) (kt : x1 ≤ 8 → XW kX11_points d (some .int) (wQi Q) 13 [some (.inr (.inr 0)), some (.inl x1), none] [] M) (kf : x1 > 8 → XW kX11_points d (some .int) (wQi Q) 11 [some (.inr (.inr 0)), some (.inl x1), none] [] M) : XW kX11_points d (some .int) (wQi Q) 5 [some (.inr (.inr 0)), some (.inl x1), none] [] M := by
  refine x_iload_n rfl rfl ?_
  refine x_bipush 8 rfl (by decide) ?_
  exact x_icmple rfl h1 (by decide) kt kf
theorem uX11_points_11 {d : Nat} {Q : Int → yM → Prop} {M : yM} {x1 : Int} (k : Q (-1) M) : XW kX11_points d (some .int) (wQi Q) 11 [some (.inr (.inr 0)), some (.inl x1), none] [] M := by
  refine x_iconst (-1) rfl (by decide) ?_
  exact x_ireturn rfl k
theorem uX11_points_13 {d : Nat} {Q : Int → yM → Prop} {M : yM} {x1 : Int} (k : XCi d 60 [.inr (.inr 1)] M (fun v M' => XW kX11_points (d + 1) (some .int) (wQi Q) 33 [some (.inr (.inr 0)), some (.inl x1), some (.inl (ld M 19 0))] [.inl v, .inl x1, .inr (.inr 19)] M')) : XW kX11_points (d + 1) (some .int) (wQi Q) 13 [some (.inr (.inr 0)), some (.inl x1), none] [] M := by
  refine x_aload_n rfl rfl ?_
  refine x_getR rfl sh0 rfl ?_
  refine x_getI rfl sh19 rfl ?_
  refine x_istore_n rfl (Nat.le_of_ble_eq_true rfl) rfl ?_
  refine x_aload_n rfl rfl ?_
  refine x_getR rfl sh0 rfl ?_
  refine x_iload_n rfl rfl ?_
  refine x_aload_n rfl rfl ?_
  refine x_getR rfl sh0 rfl ?_
  exact x_calli (args := [.inr (.inr 1)]) rfl rfl rfl k
theorem uX11_points_33 {d : Nat} {Q : Int → yM → Prop} {M : yM} {x1 : Int} {x2 : Int} {s0 : Int} {s1 : Int} (k : XCv d 36 [.inr (.inr 19), .inl s1, .inl s0] M (fun M' => XW kX11_points (d + 1) (some .int) (wQi Q) 36 [some (.inr (.inr 0)), some (.inl x1), some (.inl x2)] [] M')) : XW kX11_points (d + 1) (some .int) (wQi Q) 33 [some (.inr (.inr 0)), some (.inl x1), some (.inl x2)] [.inl s0, .inl s1, .inr (.inr 19)] M := by
  exact x_callv (args := [.inr (.inr 19), .inl s1, .inl s0]) rfl rfl rfl k
theorem uX11_points_36 {d : Nat} {Q : Int → yM → Prop} {M : yM} {x1 : Int} {x2 : Int} (k : XCv d 115 [.inr (.inr 0)] M (fun M' => XW kX11_points (d + 1) (some .int) (wQi Q) 40 [some (.inr (.inr 0)), some (.inl x1), some (.inl x2)] [] M')) : XW kX11_points (d + 1) (some .int) (wQi Q) 36 [some (.inr (.inr 0)), some (.inl x1), some (.inl x2)] [] M := by
  refine x_aload_n rfl rfl ?_
  exact x_callv (args := [.inr (.inr 0)]) rfl rfl rfl k
theorem uX11_points_40 {d : Nat} {Q : Int → yM → Prop} {M : yM} {x1 : Int} {x2 : Int} (k : Q x2 M) : XW kX11_points d (some .int) (wQi Q) 40 [some (.inr (.inr 0)), some (.inl x1), some (.inl x2)] [] M := by
  refine x_iload_n rfl rfl ?_
  exact x_ireturn rfl k
theorem eX11_tell {d : Nat} {Q : Int → yM → Prop} {M : yM} {x1 : Int} {x2 : Int} {x3 : Int}  (h : XW kX11_tell d (some .int) (wQi Q) 0 [some (.inr (.inr 0)), some (.inl x1), some (.inl x2), some (.inl x3), none] [] M) : XCi d 94 [.inr (.inr 0), .inl x1, .inl x2, .inl x3] M Q :=
  XC.ofW (Mm := (yX11_tell, cX11_tell, 5, (some .int), 12, kX11_tell)) rfl (rcv_ok sh0) rfl rfl h
theorem uX11_tell_0 {d : Nat} {Q : Int → yM → Prop} {M : yM} {x1 : Int} {x2 : Int} {x3 : Int} (k : XCi d 37 [.inr (.inr 19), .inl x1] M (fun v M' => XW kX11_tell (d + 1) (some .int) (wQi Q) 8 [some (.inr (.inr 0)), some (.inl x1), some (.inl x2), some (.inl x3), none] [.inl v] M')) : XW kX11_tell (d + 1) (some .int) (wQi Q) 0 [some (.inr (.inr 0)), some (.inl x1), some (.inl x2), some (.inl x3), none] [] M := by
  refine x_aload_n rfl rfl ?_
  refine x_getR rfl sh0 rfl ?_
  refine x_iload_n rfl rfl ?_
  exact x_calli (args := [.inr (.inr 19), .inl x1]) rfl rfl rfl k
theorem uX11_tell_8 {d : Nat} {Q : Int → yM → Prop} {M : yM} {x1 : Int} {x2 : Int} {x3 : Int} {s0 : Int} (h1 : -2147483648 ≤ s0 ∧ s0 < 2147483648) (kt : s0 = 0 → XW kX11_tell d (some .int) (wQi Q) 38 [some (.inr (.inr 0)), some (.inl x1), some (.inl x2), some (.inl x3), none] [] M) (kf : s0 ≠ 0 → XW kX11_tell d (some .int) (wQi Q) 11 [some (.inr (.inr 0)), some (.inl x1), some (.inl x2), some (.inl x3), none] [] M) : XW kX11_tell d (some .int) (wQi Q) 8 [some (.inr (.inr 0)), some (.inl x1), some (.inl x2), some (.inl x3), none] [.inl s0] M := by
  exact x_ifeq rfl h1 kt kf
theorem uX11_tell_11 {d : Nat} {Q : Int → yM → Prop} {M : yM} {x1 : Int} {x2 : Int} {x3 : Int} (k : XCi d 37 [.inr (.inr 19), .inl x2] M (fun v M' => XW kX11_tell (d + 1) (some .int) (wQi Q) 19 [some (.inr (.inr 0)), some (.inl x1), some (.inl x2), some (.inl x3), none] [.inl v] M')) : XW kX11_tell (d + 1) (some .int) (wQi Q) 11 [some (.inr (.inr 0)), some (.inl x1), some (.inl x2), some (.inl x3), none] [] M := by
  refine x_aload_n rfl rfl ?_
  refine x_getR rfl sh0 rfl ?_
  refine x_iload_n rfl rfl ?_
  exact x_calli (args := [.inr (.inr 19), .inl x2]) rfl rfl rfl k
theorem uX11_tell_19 {d : Nat} {Q : Int → yM → Prop} {M : yM} {x1 : Int} {x2 : Int} {x3 : Int} {s0 : Int} (h1 : -2147483648 ≤ s0 ∧ s0 < 2147483648) (kt : s0 = 0 → XW kX11_tell d (some .int) (wQi Q) 38 [some (.inr (.inr 0)), some (.inl x1), some (.inl x2), some (.inl x3), none] [] M) (kf : s0 ≠ 0 → XW kX11_tell d (some .int) (wQi Q) 22 [some (.inr (.inr 0)), some (.inl x1), some (.inl x2), some (.inl x3), none] [] M) : XW kX11_tell d (some .int) (wQi Q) 19 [some (.inr (.inr 0)), some (.inl x1), some (.inl x2), some (.inl x3), none] [.inl s0] M := by
  exact x_ifeq rfl h1 kt kf
theorem uX11_tell_22 {d : Nat} {Q : Int → yM → Prop} {M : yM} {x1 : Int} {x2 : Int} {x3 : Int} (h1 : -2147483648 ≤ x1 ∧ x1 < 2147483648) (h2 : -2147483648 ≤ x2 ∧ x2 < 2147483648) (kt : x1 = x2 → XW kX11_tell d (some .int) (wQi Q) 38 [some (.inr (.inr 0)), some (.inl x1), some (.inl x2), some (.inl x3), none] [] M) (kf : x1 ≠ x2 → XW kX11_tell d (some .int) (wQi Q) 27 [some (.inr (.inr 0)), some (.inl x1), some (.inl x2), some (.inl x3), none] [] M) : XW kX11_tell d (some .int) (wQi Q) 22 [some (.inr (.inr 0)), some (.inl x1), some (.inl x2), some (.inl x3), none] [] M := by
  refine x_iload_n rfl rfl ?_
  refine x_iload_n rfl rfl ?_
  exact x_icmpeq rfl h1 h2 kt kf
theorem uX11_tell_27 {d : Nat} {Q : Int → yM → Prop} {M : yM} {x1 : Int} {x2 : Int} {x3 : Int} (k : XCi d 61 [.inr (.inr 1), .inl x3] M (fun v M' => XW kX11_tell (d + 1) (some .int) (wQi Q) 35 [some (.inr (.inr 0)), some (.inl x1), some (.inl x2), some (.inl x3), none] [.inl v] M')) : XW kX11_tell (d + 1) (some .int) (wQi Q) 27 [some (.inr (.inr 0)), some (.inl x1), some (.inl x2), some (.inl x3), none] [] M := by
  refine x_aload_n rfl rfl ?_
  refine x_getR rfl sh0 rfl ?_
  refine x_iload_n rfl rfl ?_
  exact x_calli (args := [.inr (.inr 1), .inl x3]) rfl rfl rfl k
theorem uX11_tell_35 {d : Nat} {Q : Int → yM → Prop} {M : yM} {x1 : Int} {x2 : Int} {x3 : Int} {s0 : Int} (h1 : -2147483648 ≤ s0 ∧ s0 < 2147483648) (kt : s0 ≠ 0 → XW kX11_tell d (some .int) (wQi Q) 40 [some (.inr (.inr 0)), some (.inl x1), some (.inl x2), some (.inl x3), none] [] M) (kf : s0 = 0 → XW kX11_tell d (some .int) (wQi Q) 38 [some (.inr (.inr 0)), some (.inl x1), some (.inl x2), some (.inl x3), none] [] M) : XW kX11_tell d (some .int) (wQi Q) 35 [some (.inr (.inr 0)), some (.inl x1), some (.inl x2), some (.inl x3), none] [.inl s0] M := by
  exact x_ifne rfl h1 kt kf
theorem uX11_tell_38 {d : Nat} {Q : Int → yM → Prop} {M : yM} {x1 : Int} {x2 : Int} {x3 : Int} (k : Q (-1) M) : XW kX11_tell d (some .int) (wQi Q) 38 [some (.inr (.inr 0)), some (.inl x1), some (.inl x2), some (.inl x3), none] [] M := by
  refine x_iconst (-1) rfl (by decide) ?_
  exact x_ireturn rfl k
theorem uX11_tell_40 {d : Nat} {Q : Int → yM → Prop} {M : yM} {x1 : Int} {x2 : Int} {x3 : Int} (h1 : 0 ≤ ((8 * x1) + x2) ∧ ((8 * x1) + x2) < 64) (h2 : -2147483648 ≤ x3 ∧ x3 < 2147483648) (kt : (ld M 20 ((8 * x1) + x2)) = x3 → XW kX11_tell d (some .int) (wQi Q) 103 [some (.inr (.inr 0)), some (.inl x1), some (.inl x2), some (.inl x3), some (.inl (ld M 20 ((8 * x1) + x2)))] [] M) (kf : (ld M 20 ((8 * x1) + x2)) ≠ x3 → XW kX11_tell d (some .int) (wQi Q) 62 [some (.inr (.inr 0)), some (.inl x1), some (.inl x2), some (.inl x3), some (.inl (ld M 20 ((8 * x1) + x2)))] [] M) : XW kX11_tell d (some .int) (wQi Q) 40 [some (.inr (.inr 0)), some (.inl x1), some (.inl x2), some (.inl x3), none] [] M := by
  refine x_aload_n rfl rfl ?_
  refine x_getR rfl sh0 rfl ?_
  refine x_getR rfl sh19 rfl ?_
  refine x_bipush 8 rfl (by decide) ?_
  refine x_iload_n rfl rfl ?_
  refine x_imul rfl ?_
  refine x_iload_n rfl rfl ?_
  refine x_iadd rfl ?_
  refine x_iaload rfl ⟨sh20, Nat.le_of_ble_eq_true rfl⟩ h1 ?_
  refine x_istore rfl (Nat.le_of_ble_eq_true rfl) rfl ?_
  refine x_iload rfl rfl ?_
  refine x_iload_n rfl rfl ?_
  exact x_icmpeq rfl (rng_ld _ _ _) h2 kt kf
theorem uX11_tell_62 {d : Nat} {Q : Int → yM → Prop} {M : yM} {x1 : Int} {x2 : Int} {x3 : Int} {x4 : Int} (h1 : 0 ≤ ((8 * x1) + x2) ∧ ((8 * x1) + x2) < 64) (k : ∀ M', M' = (put M 20 ((8 * x1) + x2) x3) → XW kX11_tell d (some .int) (wQi Q) 77 [some (.inr (.inr 0)), some (.inl x1), some (.inl x2), some (.inl x3), some (.inl x4)] [] M') : XW kX11_tell d (some .int) (wQi Q) 62 [some (.inr (.inr 0)), some (.inl x1), some (.inl x2), some (.inl x3), some (.inl x4)] [] M := by
  refine x_aload_n rfl rfl ?_
  refine x_getR rfl sh0 rfl ?_
  refine x_getR rfl sh19 rfl ?_
  refine x_bipush 8 rfl (by decide) ?_
  refine x_iload_n rfl rfl ?_
  refine x_imul rfl ?_
  refine x_iload_n rfl rfl ?_
  refine x_iadd rfl ?_
  refine x_iload_n rfl rfl ?_
  refine x_iastore rfl ⟨sh20, Nat.le_of_ble_eq_true rfl⟩ h1  ?_
  exact k _ rfl
theorem uX11_tell_77 {d : Nat} {Q : Int → yM → Prop} {M : yM} {x1 : Int} {x2 : Int} {x3 : Int} {x4 : Int} (k : XCi d 70 [.inr (.inr 1), .inl x3] M (fun v M' => XW kX11_tell (d + 1) (some .int) (wQi Q) 98 [some (.inr (.inr 0)), some (.inl x1), some (.inl x2), some (.inl x3), some (.inl x4)] [.inl v, .inl ((8 * x2) + x1), .inr (.inr 20)] M')) : XW kX11_tell (d + 1) (some .int) (wQi Q) 77 [some (.inr (.inr 0)), some (.inl x1), some (.inl x2), some (.inl x3), some (.inl x4)] [] M := by
  refine x_aload_n rfl rfl ?_
  refine x_getR rfl sh0 rfl ?_
  refine x_getR rfl sh19 rfl ?_
  refine x_bipush 8 rfl (by decide) ?_
  refine x_iload_n rfl rfl ?_
  refine x_imul rfl ?_
  refine x_iload_n rfl rfl ?_
  refine x_iadd rfl ?_
  refine x_aload_n rfl rfl ?_
  refine x_getR rfl sh0 rfl ?_
  refine x_iload_n rfl rfl ?_
  exact x_calli (args := [.inr (.inr 1), .inl x3]) rfl rfl rfl k
theorem uX11_tell_98 {d : Nat} {Q : Int → yM → Prop} {M : yM} {x1 : Int} {x2 : Int} {x3 : Int} {x4 : Int} {s0 : Int} {s1 : Int} (h1 : 0 ≤ s1 ∧ s1 < 64) (k : ∀ M', M' = (put M 20 s1 s0) → XW kX11_tell d (some .int) (wQi Q) 99 [some (.inr (.inr 0)), some (.inl x1), some (.inl x2), some (.inl x3), some (.inl x4)] [] M') : XW kX11_tell d (some .int) (wQi Q) 98 [some (.inr (.inr 0)), some (.inl x1), some (.inl x2), some (.inl x3), some (.inl x4)] [.inl s0, .inl s1, .inr (.inr 20)] M := by
  refine x_iastore rfl ⟨sh20, Nat.le_of_ble_eq_true rfl⟩ h1  ?_
  exact k _ rfl
theorem uX11_tell_99 {d : Nat} {Q : Int → yM → Prop} {M : yM} {x1 : Int} {x2 : Int} {x3 : Int} {x4 : Int} (k : XCv d 115 [.inr (.inr 0)] M (fun M' => XW kX11_tell (d + 1) (some .int) (wQi Q) 103 [some (.inr (.inr 0)), some (.inl x1), some (.inl x2), some (.inl x3), some (.inl x4)] [] M')) : XW kX11_tell (d + 1) (some .int) (wQi Q) 99 [some (.inr (.inr 0)), some (.inl x1), some (.inl x2), some (.inl x3), some (.inl x4)] [] M := by
  refine x_aload_n rfl rfl ?_
  exact x_callv (args := [.inr (.inr 0)]) rfl rfl rfl k
theorem uX11_tell_103 {d : Nat} {Q : Int → yM → Prop} {M : yM} {x1 : Int} {x2 : Int} {x3 : Int} {x4 : Int} (k : Q x4 M) : XW kX11_tell d (some .int) (wQi Q) 103 [some (.inr (.inr 0)), some (.inl x1), some (.inl x2), some (.inl x3), some (.inl x4)] [] M := by
  refine x_iload rfl rfl ?_
  exact x_ireturn rfl k
theorem eX11_narrow {d : Nat} {Q : Int → yM → Prop} {M : yM} {x1 : Int} {x2 : Int} {x3 : Int}  (h : XW kX11_narrow d (some .int) (wQi Q) 0 [some (.inr (.inr 0)), some (.inl x1), some (.inl x2), some (.inl x3), none] [] M) : XCi d 95 [.inr (.inr 0), .inl x1, .inl x2, .inl x3] M Q :=
  XC.ofW (Mm := (yX11_narrow, cX11_narrow, 5, (some .int), 12, kX11_narrow)) rfl (rcv_ok sh0) rfl rfl h
theorem uX11_narrow_0 {d : Nat} {Q : Int → yM → Prop} {M : yM} {x1 : Int} {x2 : Int} {x3 : Int} (k : XCi d 111 [.inl x1] M (fun v M' => XW kX11_narrow (d + 1) (some .int) (wQi Q) 4 [some (.inr (.inr 0)), some (.inl x1), some (.inl x2), some (.inl x3), none] [.inl v] M')) : XW kX11_narrow (d + 1) (some .int) (wQi Q) 0 [some (.inr (.inr 0)), some (.inl x1), some (.inl x2), some (.inl x3), none] [] M := by
  refine x_iload_n rfl rfl ?_
  exact x_calli (args := [.inl x1]) rfl rfl rfl k
theorem uX11_narrow_4 {d : Nat} {Q : Int → yM → Prop} {M : yM} {x1 : Int} {x2 : Int} {x3 : Int} {s0 : Int} (h1 : -2147483648 ≤ s0 ∧ s0 < 2147483648) (kt : s0 = 0 → XW kX11_narrow d (some .int) (wQi Q) 29 [some (.inr (.inr 0)), some (.inl x1), some (.inl x2), some (.inl x3), none] [] M) (kf : s0 ≠ 0 → XW kX11_narrow d (some .int) (wQi Q) 7 [some (.inr (.inr 0)), some (.inl x1), some (.inl x2), some (.inl x3), none] [] M) : XW kX11_narrow d (some .int) (wQi Q) 4 [some (.inr (.inr 0)), some (.inl x1), some (.inl x2), some (.inl x3), none] [.inl s0] M := by
  exact x_ifeq rfl h1 kt kf
theorem uX11_narrow_7 {d : Nat} {Q : Int → yM → Prop} {M : yM} {x1 : Int} {x2 : Int} {x3 : Int} (k : XCi d 37 [.inr (.inr 19), .inl x2] M (fun v M' => XW kX11_narrow (d + 1) (some .int) (wQi Q) 15 [some (.inr (.inr 0)), some (.inl x1), some (.inl x2), some (.inl x3), none] [.inl v] M')) : XW kX11_narrow (d + 1) (some .int) (wQi Q) 7 [some (.inr (.inr 0)), some (.inl x1), some (.inl x2), some (.inl x3), none] [] M := by
  refine x_aload_n rfl rfl ?_
  refine x_getR rfl sh0 rfl ?_
  refine x_iload_n rfl rfl ?_
  exact x_calli (args := [.inr (.inr 19), .inl x2]) rfl rfl rfl k
theorem uX11_narrow_15 {d : Nat} {Q : Int → yM → Prop} {M : yM} {x1 : Int} {x2 : Int} {x3 : Int} {s0 : Int} (h1 : -2147483648 ≤ s0 ∧ s0 < 2147483648) (kt : s0 = 0 → XW kX11_narrow d (some .int) (wQi Q) 29 [some (.inr (.inr 0)), some (.inl x1), some (.inl x2), some (.inl x3), none] [] M) (kf : s0 ≠ 0 → XW kX11_narrow d (some .int) (wQi Q) 18 [some (.inr (.inr 0)), some (.inl x1), some (.inl x2), some (.inl x3), none] [] M) : XW kX11_narrow d (some .int) (wQi Q) 15 [some (.inr (.inr 0)), some (.inl x1), some (.inl x2), some (.inl x3), none] [.inl s0] M := by
  exact x_ifeq rfl h1 kt kf
theorem uX11_narrow_18 {d : Nat} {Q : Int → yM → Prop} {M : yM} {x1 : Int} {x2 : Int} {x3 : Int} (k : XCi d 37 [.inr (.inr 19), .inl x3] M (fun v M' => XW kX11_narrow (d + 1) (some .int) (wQi Q) 26 [some (.inr (.inr 0)), some (.inl x1), some (.inl x2), some (.inl x3), none] [.inl v] M')) : XW kX11_narrow (d + 1) (some .int) (wQi Q) 18 [some (.inr (.inr 0)), some (.inl x1), some (.inl x2), some (.inl x3), none] [] M := by
  refine x_aload_n rfl rfl ?_
  refine x_getR rfl sh0 rfl ?_
  refine x_iload_n rfl rfl ?_
  exact x_calli (args := [.inr (.inr 19), .inl x3]) rfl rfl rfl k
theorem uX11_narrow_26 {d : Nat} {Q : Int → yM → Prop} {M : yM} {x1 : Int} {x2 : Int} {x3 : Int} {s0 : Int} (h1 : -2147483648 ≤ s0 ∧ s0 < 2147483648) (kt : s0 ≠ 0 → XW kX11_narrow d (some .int) (wQi Q) 31 [some (.inr (.inr 0)), some (.inl x1), some (.inl x2), some (.inl x3), none] [] M) (kf : s0 = 0 → XW kX11_narrow d (some .int) (wQi Q) 29 [some (.inr (.inr 0)), some (.inl x1), some (.inl x2), some (.inl x3), none] [] M) : XW kX11_narrow d (some .int) (wQi Q) 26 [some (.inr (.inr 0)), some (.inl x1), some (.inl x2), some (.inl x3), none] [.inl s0] M := by
  exact x_ifne rfl h1 kt kf
theorem uX11_narrow_29 {d : Nat} {Q : Int → yM → Prop} {M : yM} {x1 : Int} {x2 : Int} {x3 : Int} (k : Q (-1) M) : XW kX11_narrow d (some .int) (wQi Q) 29 [some (.inr (.inr 0)), some (.inl x1), some (.inl x2), some (.inl x3), none] [] M := by
  refine x_iconst (-1) rfl (by decide) ?_
  exact x_ireturn rfl k
theorem uX11_narrow_31 {d : Nat} {Q : Int → yM → Prop} {M : yM} {x1 : Int} {x2 : Int} {x3 : Int} (k : XCr d 28 [.inr (.inr 56), .inl x1] M (fun v M' => XW kX11_narrow (d + 1) (some .int) (wQi Q) 39 [some (.inr (.inr 0)), some (.inl x1), some (.inl x2), some (.inl x3), none] [.inr (.inr v)] M')) : XW kX11_narrow (d + 1) (some .int) (wQi Q) 31 [some (.inr (.inr 0)), some (.inl x1), some (.inl x2), some (.inl x3), none] [] M := by
  refine x_aload_n rfl rfl ?_
  refine x_getR rfl sh0 rfl ?_
  refine x_iload_n rfl rfl ?_
  exact x_callr (args := [.inr (.inr 56), .inl x1]) rfl rfl rfl k
theorem uX11_narrow_39 {d : Nat} {Q : Int → yM → Prop} {M : yM} {x1 : Int} {x2 : Int} {x3 : Int} {s0 : Nat} (k : XCi d 27 [.inr (.inr 56), .inl x1] M (fun v M' => XW kX11_narrow (d + 1) (some .int) (wQi Q) 54 [some (.inr (.inr 0)), some (.inl x1), some (.inl x2), some (.inl x3), some (.inr (.inr s0))] [.inl v, .inr (.inl (ldL M 0 11)), .inr (.inr 0)] M')) : XW kX11_narrow (d + 1) (some .int) (wQi Q) 39 [some (.inr (.inr 0)), some (.inl x1), some (.inl x2), some (.inl x3), none] [.inr (.inr s0)] M := by
  refine x_astore rfl (Nat.le_of_ble_eq_true rfl) rfl ?_
  refine x_aload_n rfl rfl ?_
  refine x_dupa rfl ?_
  refine x_getL rfl sh0 rfl ?_
  refine x_aload_n rfl rfl ?_
  refine x_getR rfl sh0 rfl ?_
  refine x_iload_n rfl rfl ?_
  exact x_calli (args := [.inr (.inr 56), .inl x1]) rfl rfl rfl k
theorem uX11_narrow_54 {d : Nat} {Q : Int → yM → Prop} {M : yM} {x1 : Int} {x2 : Int} {x3 : Int} {x4 : Nat} {s0 : Int} {s1 : Int} (h1 : -2147483648 ≤ s0 ∧ s0 < 2147483648) (k : ∀ M', M' = (putL M 0 11 (s1 + s0)) → XW kX11_narrow d (some .int) (wQi Q) 59 [some (.inr (.inr 0)), some (.inl x1), some (.inl x2), some (.inl x3), some (.inr (.inr x4))] [] M') : XW kX11_narrow d (some .int) (wQi Q) 54 [some (.inr (.inr 0)), some (.inl x1), some (.inl x2), some (.inl x3), some (.inr (.inr x4))] [.inl s0, .inr (.inl s1), .inr (.inr 0)] M := by
  refine x_i2l rfl h1 ?_
  refine x_ladd rfl ?_
  refine x_putL rfl rfl sh0 rfl ?_
  exact k _ rfl
theorem uX11_narrow_59 {d : Nat} {Q : Int → yM → Prop} {M : yM} {x1 : Int} {x2 : Int} {x3 : Int} {x4 : Nat} (h1 : arrSh x4 64) (h2 : 0 ≤ ((8 * x2) + x3) ∧ ((8 * x2) + x3) < 64) (k : Q (ld M x4 ((8 * x2) + x3)) M) : XW kX11_narrow d (some .int) (wQi Q) 59 [some (.inr (.inr 0)), some (.inl x1), some (.inl x2), some (.inl x3), some (.inr (.inr x4))] [] M := by
  refine x_aload rfl rfl ?_
  refine x_bipush 8 rfl (by decide) ?_
  refine x_iload_n rfl rfl ?_
  refine x_imul rfl ?_
  refine x_iload_n rfl rfl ?_
  refine x_iadd rfl ?_
  refine x_iaload rfl h1 h2 ?_
  exact x_ireturn rfl k
theorem eX11_isVoid {d : Nat} {Q : Int → yM → Prop} {M : yM} {x1 : Int}  (h : XW kX11_isVoid d (some .int) (wQi Q) 0 [some (.inr (.inr 0)), some (.inl x1)] [] M) : XCi d 96 [.inr (.inr 0), .inl x1] M Q :=
  XC.ofW (Mm := (yX11_isVoid, cX11_isVoid, 2, (some .int), 12, kX11_isVoid)) rfl (rcv_ok sh0) rfl rfl h
theorem uX11_isVoid_0 {d : Nat} {Q : Int → yM → Prop} {M : yM} {x1 : Int} (k : XCi d 111 [.inl x1] M (fun v M' => XW kX11_isVoid (d + 1) (some .int) (wQi Q) 4 [some (.inr (.inr 0)), some (.inl x1)] [.inl v] M')) : XW kX11_isVoid (d + 1) (some .int) (wQi Q) 0 [some (.inr (.inr 0)), some (.inl x1)] [] M := by
  refine x_iload_n rfl rfl ?_
  exact x_calli (args := [.inl x1]) rfl rfl rfl k
theorem uX11_isVoid_4 {d : Nat} {Q : Int → yM → Prop} {M : yM} {x1 : Int} {s0 : Int} (h1 : -2147483648 ≤ s0 ∧ s0 < 2147483648) (kt : s0 ≠ 0 → XW kX11_isVoid d (some .int) (wQi Q) 9 [some (.inr (.inr 0)), some (.inl x1)] [] M) (kf : s0 = 0 → XW kX11_isVoid d (some .int) (wQi Q) 7 [some (.inr (.inr 0)), some (.inl x1)] [] M) : XW kX11_isVoid d (some .int) (wQi Q) 4 [some (.inr (.inr 0)), some (.inl x1)] [.inl s0] M := by
  exact x_ifne rfl h1 kt kf
theorem uX11_isVoid_7 {d : Nat} {Q : Int → yM → Prop} {M : yM} {x1 : Int} (k : Q (-1) M) : XW kX11_isVoid d (some .int) (wQi Q) 7 [some (.inr (.inr 0)), some (.inl x1)] [] M := by
  refine x_iconst (-1) rfl (by decide) ?_
  exact x_ireturn rfl k
theorem uX11_isVoid_9 {d : Nat} {Q : Int → yM → Prop} {M : yM} {x1 : Int} (k : XCr d 28 [.inr (.inr 56), .inl x1] M (fun v M' => XW kX11_isVoid (d + 1) (some .int) (wQi Q) 17 [some (.inr (.inr 0)), some (.inl x1)] [.inr (.inr v)] M')) : XW kX11_isVoid (d + 1) (some .int) (wQi Q) 9 [some (.inr (.inr 0)), some (.inl x1)] [] M := by
  refine x_aload_n rfl rfl ?_
  refine x_getR rfl sh0 rfl ?_
  refine x_iload_n rfl rfl ?_
  exact x_callr (args := [.inr (.inr 56), .inl x1]) rfl rfl rfl k
theorem uX11_isVoid_17 {d : Nat} {Q : Int → yM → Prop} {M : yM} {x1 : Int} {s0 : Nat} (k : XCi d 117 [.inr (.inr s0), .inl (ld M 19 0)] M (fun v M' => XW kX11_isVoid (d + 1) (some .int) (wQi Q) 27 [some (.inr (.inr 0)), some (.inl x1)] [.inl v] M')) : XW kX11_isVoid (d + 1) (some .int) (wQi Q) 17 [some (.inr (.inr 0)), some (.inl x1)] [.inr (.inr s0)] M := by
  refine x_aload_n rfl rfl ?_
  refine x_getR rfl sh0 rfl ?_
  refine x_getI rfl sh19 rfl ?_
  exact x_calli (args := [.inr (.inr s0), .inl (ld M 19 0)]) rfl rfl rfl k
theorem uX11_isVoid_27 {d : Nat} {Q : Int → yM → Prop} {M : yM} {x1 : Int} {s0 : Int} (h1 : -2147483648 ≤ s0 ∧ s0 < 2147483648) (kt : s0 = 0 → XW kX11_isVoid d (some .int) (wQi Q) 34 [some (.inr (.inr 0)), some (.inl x1)] [] M) (kf : s0 ≠ 0 → XW kX11_isVoid d (some .int) (wQi Q) 30 [some (.inr (.inr 0)), some (.inl x1)] [] M) : XW kX11_isVoid d (some .int) (wQi Q) 27 [some (.inr (.inr 0)), some (.inl x1)] [.inl s0] M := by
  exact x_ifeq rfl h1 kt kf
theorem uX11_isVoid_30 {d : Nat} {Q : Int → yM → Prop} {M : yM} {x1 : Int} (k : XW kX11_isVoid d (some .int) (wQi Q) 35 [some (.inr (.inr 0)), some (.inl x1)] [.inl 1] M) : XW kX11_isVoid d (some .int) (wQi Q) 30 [some (.inr (.inr 0)), some (.inl x1)] [] M := by
  refine x_iconst 1 rfl (by decide) ?_
  exact x_goto rfl k
theorem uX11_isVoid_34 {d : Nat} {Q : Int → yM → Prop} {M : yM} {x1 : Int} (k : XW kX11_isVoid d (some .int) (wQi Q) 35 [some (.inr (.inr 0)), some (.inl x1)] [.inl 0] M) : XW kX11_isVoid d (some .int) (wQi Q) 34 [some (.inr (.inr 0)), some (.inl x1)] [] M := by
  refine x_iconst 0 rfl (by decide) ?_
  exact k
theorem uX11_isVoid_35 {d : Nat} {Q : Int → yM → Prop} {M : yM} {x1 : Int} {s0 : Int} (k : Q s0 M) : XW kX11_isVoid d (some .int) (wQi Q) 35 [some (.inr (.inr 0)), some (.inl x1)] [.inl s0] M := by
  exact x_ireturn rfl k
theorem eX11_fillings {d : Nat} {Q : Int → yM → Prop} {M : yM} {x1 : Int}  (h : XW kX11_fillings d (some .int) (wQi Q) 0 [some (.inr (.inr 0)), some (.inl x1), none] [] M) : XCi d 97 [.inr (.inr 0), .inl x1] M Q :=
  XC.ofW (Mm := (yX11_fillings, cX11_fillings, 3, (some .int), 12, kX11_fillings)) rfl (rcv_ok sh0) rfl rfl h
theorem uX11_fillings_0 {d : Nat} {Q : Int → yM → Prop} {M : yM} {x1 : Int} (k : XCi d 110 [.inl x1] M (fun v M' => XW kX11_fillings (d + 1) (some .int) (wQi Q) 4 [some (.inr (.inr 0)), some (.inl x1), none] [.inl v] M')) : XW kX11_fillings (d + 1) (some .int) (wQi Q) 0 [some (.inr (.inr 0)), some (.inl x1), none] [] M := by
  refine x_iload_n rfl rfl ?_
  exact x_calli (args := [.inl x1]) rfl rfl rfl k
theorem uX11_fillings_4 {d : Nat} {Q : Int → yM → Prop} {M : yM} {x1 : Int} {s0 : Int} (h1 : -2147483648 ≤ s0 ∧ s0 < 2147483648) (kt : s0 ≠ 0 → XW kX11_fillings d (some .int) (wQi Q) 9 [some (.inr (.inr 0)), some (.inl x1), none] [] M) (kf : s0 = 0 → XW kX11_fillings d (some .int) (wQi Q) 7 [some (.inr (.inr 0)), some (.inl x1), none] [] M) : XW kX11_fillings d (some .int) (wQi Q) 4 [some (.inr (.inr 0)), some (.inl x1), none] [.inl s0] M := by
  exact x_ifne rfl h1 kt kf
theorem uX11_fillings_7 {d : Nat} {Q : Int → yM → Prop} {M : yM} {x1 : Int} (k : Q (-1) M) : XW kX11_fillings d (some .int) (wQi Q) 7 [some (.inr (.inr 0)), some (.inl x1), none] [] M := by
  refine x_iconst (-1) rfl (by decide) ?_
  exact x_ireturn rfl k
theorem uX11_fillings_9 {d : Nat} {Q : Int → yM → Prop} {M : yM} {x1 : Int} (h1 : -2147483648 ≤ x1 ∧ x1 < 2147483648) (kt : x1 ≠ 1 → XW kX11_fillings d (some .int) (wQi Q) 30 [some (.inr (.inr 0)), some (.inl x1), none] [] M) (kf : x1 = 1 → XW kX11_fillings d (some .int) (wQi Q) 14 [some (.inr (.inr 0)), some (.inl x1), none] [] M) : XW kX11_fillings d (some .int) (wQi Q) 9 [some (.inr (.inr 0)), some (.inl x1), none] [] M := by
  refine x_iload_n rfl rfl ?_
  refine x_iconst 1 rfl (by decide) ?_
  exact x_icmpne rfl h1 (by decide) kt kf
theorem uX11_fillings_14 {d : Nat} {Q : Int → yM → Prop} {M : yM} {x1 : Int} (k : XCi d 22 [.inr (.inr 65)] M (fun v M' => XW kX11_fillings (d + 1) (some .int) (wQi Q) 21 [some (.inr (.inr 0)), some (.inl x1), none] [.inl v] M')) : XW kX11_fillings (d + 1) (some .int) (wQi Q) 14 [some (.inr (.inr 0)), some (.inl x1), none] [] M := by
  refine x_aload_n rfl rfl ?_
  refine x_getR rfl sh0 rfl ?_
  exact x_calli (args := [.inr (.inr 65)]) rfl rfl rfl k
theorem uX11_fillings_21 {d : Nat} {Q : Int → yM → Prop} {M : yM} {x1 : Int} {s0 : Int} (h1 : -2147483648 ≤ s0 ∧ s0 < 2147483648) (kt : s0 = 0 → XW kX11_fillings d (some .int) (wQi Q) 28 [some (.inr (.inr 0)), some (.inl x1), none] [] M) (kf : s0 ≠ 0 → XW kX11_fillings d (some .int) (wQi Q) 24 [some (.inr (.inr 0)), some (.inl x1), none] [] M) : XW kX11_fillings d (some .int) (wQi Q) 21 [some (.inr (.inr 0)), some (.inl x1), none] [.inl s0] M := by
  exact x_ifeq rfl h1 kt kf
theorem uX11_fillings_24 {d : Nat} {Q : Int → yM → Prop} {M : yM} {x1 : Int} (k : XW kX11_fillings d (some .int) (wQi Q) 29 [some (.inr (.inr 0)), some (.inl x1), none] [.inl 1] M) : XW kX11_fillings d (some .int) (wQi Q) 24 [some (.inr (.inr 0)), some (.inl x1), none] [] M := by
  refine x_iconst 1 rfl (by decide) ?_
  exact x_goto rfl k
theorem uX11_fillings_28 {d : Nat} {Q : Int → yM → Prop} {M : yM} {x1 : Int} (k : XW kX11_fillings d (some .int) (wQi Q) 29 [some (.inr (.inr 0)), some (.inl x1), none] [.inl 0] M) : XW kX11_fillings d (some .int) (wQi Q) 28 [some (.inr (.inr 0)), some (.inl x1), none] [] M := by
  refine x_iconst 0 rfl (by decide) ?_
  exact k
theorem uX11_fillings_29 {d : Nat} {Q : Int → yM → Prop} {M : yM} {x1 : Int} {s0 : Int} (k : Q s0 M) : XW kX11_fillings d (some .int) (wQi Q) 29 [some (.inr (.inr 0)), some (.inl x1), none] [.inl s0] M := by
  exact x_ireturn rfl k
theorem uX11_fillings_30 {d : Nat} {Q : Int → yM → Prop} {M : yM} {x1 : Int} (k : XCi d 21 [.inr (.inr 65)] M (fun v M' => XW kX11_fillings (d + 1) (some .int) (wQi Q) 37 [some (.inr (.inr 0)), some (.inl x1), none] [.inl v] M')) : XW kX11_fillings (d + 1) (some .int) (wQi Q) 30 [some (.inr (.inr 0)), some (.inl x1), none] [] M := by
  refine x_aload_n rfl rfl ?_
  refine x_getR rfl sh0 rfl ?_
  exact x_calli (args := [.inr (.inr 65)]) rfl rfl rfl k
theorem uX11_fillings_37 {d : Nat} {Q : Int → yM → Prop} {M : yM} {x1 : Int} {s0 : Int} (h1 : -2147483648 ≤ s0 ∧ s0 < 2147483648) (kt : s0 ≤ 20000 → XW kX11_fillings d (some .int) (wQi Q) 50 [some (.inr (.inr 0)), some (.inl x1), some (.inl s0)] [] M) (kf : s0 > 20000 → XW kX11_fillings d (some .int) (wQi Q) 45 [some (.inr (.inr 0)), some (.inl x1), some (.inl s0)] [] M) : XW kX11_fillings d (some .int) (wQi Q) 37 [some (.inr (.inr 0)), some (.inl x1), none] [.inl s0] M := by
  refine x_istore_n rfl (Nat.le_of_ble_eq_true rfl) rfl ?_
  refine x_iload_n rfl rfl ?_
  refine x_sipush 20000 rfl (by decide) ?_
  exact x_icmple rfl h1 (by decide) kt kf
theorem uX11_fillings_45 {d : Nat} {Q : Int → yM → Prop} {M : yM} {x1 : Int} {x2 : Int} (k : XW kX11_fillings d (some .int) (wQi Q) 51 [some (.inr (.inr 0)), some (.inl x1), some (.inl x2)] [.inl (-5)] M) : XW kX11_fillings d (some .int) (wQi Q) 45 [some (.inr (.inr 0)), some (.inl x1), some (.inl x2)] [] M := by
  refine x_bipush (-5) rfl (by decide) ?_
  exact x_goto rfl k
theorem uX11_fillings_50 {d : Nat} {Q : Int → yM → Prop} {M : yM} {x1 : Int} {x2 : Int} (k : XW kX11_fillings d (some .int) (wQi Q) 51 [some (.inr (.inr 0)), some (.inl x1), some (.inl x2)] [.inl x2] M) : XW kX11_fillings d (some .int) (wQi Q) 50 [some (.inr (.inr 0)), some (.inl x1), some (.inl x2)] [] M := by
  refine x_iload_n rfl rfl ?_
  exact k
theorem uX11_fillings_51 {d : Nat} {Q : Int → yM → Prop} {M : yM} {x1 : Int} {x2 : Int} {s0 : Int} (k : Q s0 M) : XW kX11_fillings d (some .int) (wQi Q) 51 [some (.inr (.inr 0)), some (.inl x1), some (.inl x2)] [.inl s0] M := by
  exact x_ireturn rfl k
theorem eX11_first {d : Nat} {Q : Int → yM → Prop} {M : yM} {x1 : Int} {x2 : Int}  (h : XW kX11_first d (some .int) (wQi Q) 0 [some (.inr (.inr 0)), some (.inl x1), some (.inl x2)] [] M) : XCi d 98 [.inr (.inr 0), .inl x1, .inl x2] M Q :=
  XC.ofW (Mm := (yX11_first, cX11_first, 3, (some .int), 12, kX11_first)) rfl (rcv_ok sh0) rfl rfl h
theorem uX11_first_0 {d : Nat} {Q : Int → yM → Prop} {M : yM} {x1 : Int} {x2 : Int} (k : XCi d 37 [.inr (.inr 19), .inl x1] M (fun v M' => XW kX11_first (d + 1) (some .int) (wQi Q) 8 [some (.inr (.inr 0)), some (.inl x1), some (.inl x2)] [.inl v] M')) : XW kX11_first (d + 1) (some .int) (wQi Q) 0 [some (.inr (.inr 0)), some (.inl x1), some (.inl x2)] [] M := by
  refine x_aload_n rfl rfl ?_
  refine x_getR rfl sh0 rfl ?_
  refine x_iload_n rfl rfl ?_
  exact x_calli (args := [.inr (.inr 19), .inl x1]) rfl rfl rfl k
theorem uX11_first_8 {d : Nat} {Q : Int → yM → Prop} {M : yM} {x1 : Int} {x2 : Int} {s0 : Int} (h1 : -2147483648 ≤ s0 ∧ s0 < 2147483648) (kt : s0 = 0 → XW kX11_first d (some .int) (wQi Q) 22 [some (.inr (.inr 0)), some (.inl x1), some (.inl x2)] [] M) (kf : s0 ≠ 0 → XW kX11_first d (some .int) (wQi Q) 11 [some (.inr (.inr 0)), some (.inl x1), some (.inl x2)] [] M) : XW kX11_first d (some .int) (wQi Q) 8 [some (.inr (.inr 0)), some (.inl x1), some (.inl x2)] [.inl s0] M := by
  exact x_ifeq rfl h1 kt kf
theorem uX11_first_11 {d : Nat} {Q : Int → yM → Prop} {M : yM} {x1 : Int} {x2 : Int} (k : XCi d 37 [.inr (.inr 19), .inl x2] M (fun v M' => XW kX11_first (d + 1) (some .int) (wQi Q) 19 [some (.inr (.inr 0)), some (.inl x1), some (.inl x2)] [.inl v] M')) : XW kX11_first (d + 1) (some .int) (wQi Q) 11 [some (.inr (.inr 0)), some (.inl x1), some (.inl x2)] [] M := by
  refine x_aload_n rfl rfl ?_
  refine x_getR rfl sh0 rfl ?_
  refine x_iload_n rfl rfl ?_
  exact x_calli (args := [.inr (.inr 19), .inl x2]) rfl rfl rfl k
theorem uX11_first_19 {d : Nat} {Q : Int → yM → Prop} {M : yM} {x1 : Int} {x2 : Int} {s0 : Int} (h1 : -2147483648 ≤ s0 ∧ s0 < 2147483648) (kt : s0 ≠ 0 → XW kX11_first d (some .int) (wQi Q) 24 [some (.inr (.inr 0)), some (.inl x1), some (.inl x2)] [] M) (kf : s0 = 0 → XW kX11_first d (some .int) (wQi Q) 22 [some (.inr (.inr 0)), some (.inl x1), some (.inl x2)] [] M) : XW kX11_first d (some .int) (wQi Q) 19 [some (.inr (.inr 0)), some (.inl x1), some (.inl x2)] [.inl s0] M := by
  exact x_ifne rfl h1 kt kf
theorem uX11_first_22 {d : Nat} {Q : Int → yM → Prop} {M : yM} {x1 : Int} {x2 : Int} (k : Q (-1) M) : XW kX11_first d (some .int) (wQi Q) 22 [some (.inr (.inr 0)), some (.inl x1), some (.inl x2)] [] M := by
  refine x_iconst (-1) rfl (by decide) ?_
  exact x_ireturn rfl k
theorem uX11_first_24 {d : Nat} {Q : Int → yM → Prop} {M : yM} {x1 : Int} {x2 : Int} (k : XCi d 23 [.inr (.inr 65)] M (fun v M' => XW kX11_first (d + 1) (some .int) (wQi Q) 31 [some (.inr (.inr 0)), some (.inl x1), some (.inl x2)] [.inl v] M')) : XW kX11_first (d + 1) (some .int) (wQi Q) 24 [some (.inr (.inr 0)), some (.inl x1), some (.inl x2)] [] M := by
  refine x_aload_n rfl rfl ?_
  refine x_getR rfl sh0 rfl ?_
  exact x_calli (args := [.inr (.inr 65)]) rfl rfl rfl k
theorem uX11_first_31 {d : Nat} {Q : Int → yM → Prop} {M : yM} {x1 : Int} {x2 : Int} {s0 : Int} (h1 : -2147483648 ≤ s0 ∧ s0 < 2147483648) (kt : s0 ≠ 0 → XW kX11_first d (some .int) (wQi Q) 37 [some (.inr (.inr 0)), some (.inl x1), some (.inl x2)] [] M) (kf : s0 = 0 → XW kX11_first d (some .int) (wQi Q) 34 [some (.inr (.inr 0)), some (.inl x1), some (.inl x2)] [] M) : XW kX11_first d (some .int) (wQi Q) 31 [some (.inr (.inr 0)), some (.inl x1), some (.inl x2)] [.inl s0] M := by
  exact x_ifne rfl h1 kt kf
theorem uX11_first_34 {d : Nat} {Q : Int → yM → Prop} {M : yM} {x1 : Int} {x2 : Int} (k : Q (-9) M) : XW kX11_first d (some .int) (wQi Q) 34 [some (.inr (.inr 0)), some (.inl x1), some (.inl x2)] [] M := by
  refine x_bipush (-9) rfl (by decide) ?_
  exact x_ireturn rfl k
theorem uX11_first_37 {d : Nat} {Q : Int → yM → Prop} {M : yM} {x1 : Int} {x2 : Int} (h1 : 0 ≤ ((8 * x1) + x2) ∧ ((8 * x1) + x2) < 64) (k : XCi d 116 [.inl (ld M 67 ((8 * x1) + x2))] M (fun v M' => XW kX11_first (d + 1) (some .int) (wQi Q) 54 [some (.inr (.inr 0)), some (.inl x1), some (.inl x2)] [.inl v] M')) : XW kX11_first (d + 1) (some .int) (wQi Q) 37 [some (.inr (.inr 0)), some (.inl x1), some (.inl x2)] [] M := by
  refine x_aload_n rfl rfl ?_
  refine x_getR rfl sh0 rfl ?_
  refine x_getR rfl sh65 rfl ?_
  refine x_bipush 8 rfl (by decide) ?_
  refine x_iload_n rfl rfl ?_
  refine x_imul rfl ?_
  refine x_iload_n rfl rfl ?_
  refine x_iadd rfl ?_
  refine x_iaload rfl ⟨sh67, Nat.le_of_ble_eq_true rfl⟩ h1 ?_
  exact x_calli (args := [.inl (ld M 67 ((8 * x1) + x2))]) rfl rfl rfl k
theorem uX11_first_54 {d : Nat} {Q : Int → yM → Prop} {M : yM} {x1 : Int} {x2 : Int} {s0 : Int} (k : Q s0 M) : XW kX11_first d (some .int) (wQi Q) 54 [some (.inr (.inr 0)), some (.inl x1), some (.inl x2)] [.inl s0] M := by
  exact x_ireturn rfl k
theorem eX11_sure {d : Nat} {Q : Int → yM → Prop} {M : yM} {x1 : Int} {x2 : Int}  (h : XW kX11_sure d (some .int) (wQi Q) 0 [some (.inr (.inr 0)), some (.inl x1), some (.inl x2)] [] M) : XCi d 99 [.inr (.inr 0), .inl x1, .inl x2] M Q :=
  XC.ofW (Mm := (yX11_sure, cX11_sure, 3, (some .int), 12, kX11_sure)) rfl (rcv_ok sh0) rfl rfl h
theorem uX11_sure_0 {d : Nat} {Q : Int → yM → Prop} {M : yM} {x1 : Int} {x2 : Int} (k : XCi d 37 [.inr (.inr 19), .inl x1] M (fun v M' => XW kX11_sure (d + 1) (some .int) (wQi Q) 8 [some (.inr (.inr 0)), some (.inl x1), some (.inl x2)] [.inl v] M')) : XW kX11_sure (d + 1) (some .int) (wQi Q) 0 [some (.inr (.inr 0)), some (.inl x1), some (.inl x2)] [] M := by
  refine x_aload_n rfl rfl ?_
  refine x_getR rfl sh0 rfl ?_
  refine x_iload_n rfl rfl ?_
  exact x_calli (args := [.inr (.inr 19), .inl x1]) rfl rfl rfl k
theorem uX11_sure_8 {d : Nat} {Q : Int → yM → Prop} {M : yM} {x1 : Int} {x2 : Int} {s0 : Int} (h1 : -2147483648 ≤ s0 ∧ s0 < 2147483648) (kt : s0 = 0 → XW kX11_sure d (some .int) (wQi Q) 22 [some (.inr (.inr 0)), some (.inl x1), some (.inl x2)] [] M) (kf : s0 ≠ 0 → XW kX11_sure d (some .int) (wQi Q) 11 [some (.inr (.inr 0)), some (.inl x1), some (.inl x2)] [] M) : XW kX11_sure d (some .int) (wQi Q) 8 [some (.inr (.inr 0)), some (.inl x1), some (.inl x2)] [.inl s0] M := by
  exact x_ifeq rfl h1 kt kf
theorem uX11_sure_11 {d : Nat} {Q : Int → yM → Prop} {M : yM} {x1 : Int} {x2 : Int} (k : XCi d 37 [.inr (.inr 19), .inl x2] M (fun v M' => XW kX11_sure (d + 1) (some .int) (wQi Q) 19 [some (.inr (.inr 0)), some (.inl x1), some (.inl x2)] [.inl v] M')) : XW kX11_sure (d + 1) (some .int) (wQi Q) 11 [some (.inr (.inr 0)), some (.inl x1), some (.inl x2)] [] M := by
  refine x_aload_n rfl rfl ?_
  refine x_getR rfl sh0 rfl ?_
  refine x_iload_n rfl rfl ?_
  exact x_calli (args := [.inr (.inr 19), .inl x2]) rfl rfl rfl k
theorem uX11_sure_19 {d : Nat} {Q : Int → yM → Prop} {M : yM} {x1 : Int} {x2 : Int} {s0 : Int} (h1 : -2147483648 ≤ s0 ∧ s0 < 2147483648) (kt : s0 ≠ 0 → XW kX11_sure d (some .int) (wQi Q) 24 [some (.inr (.inr 0)), some (.inl x1), some (.inl x2)] [] M) (kf : s0 = 0 → XW kX11_sure d (some .int) (wQi Q) 22 [some (.inr (.inr 0)), some (.inl x1), some (.inl x2)] [] M) : XW kX11_sure d (some .int) (wQi Q) 19 [some (.inr (.inr 0)), some (.inl x1), some (.inl x2)] [.inl s0] M := by
  exact x_ifne rfl h1 kt kf
theorem uX11_sure_22 {d : Nat} {Q : Int → yM → Prop} {M : yM} {x1 : Int} {x2 : Int} (k : Q (-1) M) : XW kX11_sure d (some .int) (wQi Q) 22 [some (.inr (.inr 0)), some (.inl x1), some (.inl x2)] [] M := by
  refine x_iconst (-1) rfl (by decide) ?_
  exact x_ireturn rfl k
theorem uX11_sure_24 {d : Nat} {Q : Int → yM → Prop} {M : yM} {x1 : Int} {x2 : Int} (k : XCi d 21 [.inr (.inr 65)] M (fun v M' => XW kX11_sure (d + 1) (some .int) (wQi Q) 31 [some (.inr (.inr 0)), some (.inl x1), some (.inl x2)] [.inl v] M')) : XW kX11_sure (d + 1) (some .int) (wQi Q) 24 [some (.inr (.inr 0)), some (.inl x1), some (.inl x2)] [] M := by
  refine x_aload_n rfl rfl ?_
  refine x_getR rfl sh0 rfl ?_
  exact x_calli (args := [.inr (.inr 65)]) rfl rfl rfl k
theorem uX11_sure_31 {d : Nat} {Q : Int → yM → Prop} {M : yM} {x1 : Int} {x2 : Int} {s0 : Int} (h1 : -2147483648 ≤ s0 ∧ s0 < 2147483648) (kt : s0 ≤ 20000 → XW kX11_sure d (some .int) (wQi Q) 40 [some (.inr (.inr 0)), some (.inl x1), some (.inl x2)] [] M) (kf : s0 > 20000 → XW kX11_sure d (some .int) (wQi Q) 37 [some (.inr (.inr 0)), some (.inl x1), some (.inl x2)] [] M) : XW kX11_sure d (some .int) (wQi Q) 31 [some (.inr (.inr 0)), some (.inl x1), some (.inl x2)] [.inl s0] M := by
  refine x_sipush 20000 rfl (by decide) ?_
  exact x_icmple rfl h1 (by decide) kt kf
theorem uX11_sure_37 {d : Nat} {Q : Int → yM → Prop} {M : yM} {x1 : Int} {x2 : Int} (k : Q (-5) M) : XW kX11_sure d (some .int) (wQi Q) 37 [some (.inr (.inr 0)), some (.inl x1), some (.inl x2)] [] M := by
  refine x_bipush (-5) rfl (by decide) ?_
  exact x_ireturn rfl k
theorem uX11_sure_40 {d : Nat} {Q : Int → yM → Prop} {M : yM} {x1 : Int} {x2 : Int} (h1 : 0 ≤ ((8 * x1) + x2) ∧ ((8 * x1) + x2) < 64) (k : Q (ld M 66 ((8 * x1) + x2)) M) : XW kX11_sure d (some .int) (wQi Q) 40 [some (.inr (.inr 0)), some (.inl x1), some (.inl x2)] [] M := by
  refine x_aload_n rfl rfl ?_
  refine x_getR rfl sh0 rfl ?_
  refine x_getR rfl sh65 rfl ?_
  refine x_bipush 8 rfl (by decide) ?_
  refine x_iload_n rfl rfl ?_
  refine x_imul rfl ?_
  refine x_iload_n rfl rfl ?_
  refine x_iadd rfl ?_
  refine x_iaload rfl ⟨sh66, Nat.le_of_ble_eq_true rfl⟩ h1 ?_
  exact x_ireturn rfl k
theorem eX11_reason {d : Nat} {Q : Int → yM → Prop} {M : yM} {x1 : Int}  (h : XW kX11_reason d (some .int) (wQi Q) 0 [some (.inr (.inr 0)), some (.inl x1), none] [] M) : XCi d 100 [.inr (.inr 0), .inl x1] M Q :=
  XC.ofW (Mm := (yX11_reason, cX11_reason, 3, (some .int), 12, kX11_reason)) rfl (rcv_ok sh0) rfl rfl h
theorem uX11_reason_0 {d : Nat} {Q : Int → yM → Prop} {M : yM} {x1 : Int} (k : XCi d 110 [.inl x1] M (fun v M' => XW kX11_reason (d + 1) (some .int) (wQi Q) 4 [some (.inr (.inr 0)), some (.inl x1), none] [.inl v] M')) : XW kX11_reason (d + 1) (some .int) (wQi Q) 0 [some (.inr (.inr 0)), some (.inl x1), none] [] M := by
  refine x_iload_n rfl rfl ?_
  exact x_calli (args := [.inl x1]) rfl rfl rfl k
theorem uX11_reason_4 {d : Nat} {Q : Int → yM → Prop} {M : yM} {x1 : Int} {s0 : Int} (h1 : -2147483648 ≤ s0 ∧ s0 < 2147483648) (kt : s0 ≠ 0 → XW kX11_reason d (some .int) (wQi Q) 9 [some (.inr (.inr 0)), some (.inl x1), none] [] M) (kf : s0 = 0 → XW kX11_reason d (some .int) (wQi Q) 7 [some (.inr (.inr 0)), some (.inl x1), none] [] M) : XW kX11_reason d (some .int) (wQi Q) 4 [some (.inr (.inr 0)), some (.inl x1), none] [.inl s0] M := by
  exact x_ifne rfl h1 kt kf
theorem uX11_reason_7 {d : Nat} {Q : Int → yM → Prop} {M : yM} {x1 : Int} (k : Q (-1) M) : XW kX11_reason d (some .int) (wQi Q) 7 [some (.inr (.inr 0)), some (.inl x1), none] [] M := by
  refine x_iconst (-1) rfl (by decide) ?_
  exact x_ireturn rfl k
theorem uX11_reason_9 {d : Nat} {Q : Int → yM → Prop} {M : yM} {x1 : Int} (k : XCi d 40 [.inr (.inr 69)] M (fun v M' => XW kX11_reason (d + 1) (some .int) (wQi Q) 16 [some (.inr (.inr 0)), some (.inl x1), none] [.inl v] M')) : XW kX11_reason (d + 1) (some .int) (wQi Q) 9 [some (.inr (.inr 0)), some (.inl x1), none] [] M := by
  refine x_aload_n rfl rfl ?_
  refine x_getR rfl sh0 rfl ?_
  exact x_calli (args := [.inr (.inr 69)]) rfl rfl rfl k
theorem uX11_reason_16 {d : Nat} {Q : Int → yM → Prop} {M : yM} {x1 : Int} {s0 : Int} (h1 : -2147483648 ≤ s0 ∧ s0 < 2147483648) (kt : s0 ≠ 0 → XW kX11_reason d (some .int) (wQi Q) 22 [some (.inr (.inr 0)), some (.inl x1), none] [] M) (kf : s0 = 0 → XW kX11_reason d (some .int) (wQi Q) 19 [some (.inr (.inr 0)), some (.inl x1), none] [] M) : XW kX11_reason d (some .int) (wQi Q) 16 [some (.inr (.inr 0)), some (.inl x1), none] [.inl s0] M := by
  exact x_ifne rfl h1 kt kf
theorem uX11_reason_19 {d : Nat} {Q : Int → yM → Prop} {M : yM} {x1 : Int} (k : Q (-2) M) : XW kX11_reason d (some .int) (wQi Q) 19 [some (.inr (.inr 0)), some (.inl x1), none] [] M := by
  refine x_bipush (-2) rfl (by decide) ?_
  exact x_ireturn rfl k
theorem uX11_reason_22 {d : Nat} {Q : Int → yM → Prop} {M : yM} {x1 : Int} (k : XCi d 41 [.inr (.inr 69)] M (fun v M' => XW kX11_reason (d + 1) (some .int) (wQi Q) 29 [some (.inr (.inr 0)), some (.inl x1), none] [.inl v] M')) : XW kX11_reason (d + 1) (some .int) (wQi Q) 22 [some (.inr (.inr 0)), some (.inl x1), none] [] M := by
  refine x_aload_n rfl rfl ?_
  refine x_getR rfl sh0 rfl ?_
  exact x_calli (args := [.inr (.inr 69)]) rfl rfl rfl k
theorem uX11_reason_29 {d : Nat} {Q : Int → yM → Prop} {M : yM} {x1 : Int} {s0 : Int} (h1 : -2147483648 ≤ s0 ∧ s0 < 2147483648) (kt : s0 ≠ (-9) → XW kX11_reason d (some .int) (wQi Q) 39 [some (.inr (.inr 0)), some (.inl x1), some (.inl s0)] [] M) (kf : s0 = (-9) → XW kX11_reason d (some .int) (wQi Q) 36 [some (.inr (.inr 0)), some (.inl x1), some (.inl s0)] [] M) : XW kX11_reason d (some .int) (wQi Q) 29 [some (.inr (.inr 0)), some (.inl x1), none] [.inl s0] M := by
  refine x_istore_n rfl (Nat.le_of_ble_eq_true rfl) rfl ?_
  refine x_iload_n rfl rfl ?_
  refine x_bipush (-9) rfl (by decide) ?_
  exact x_icmpne rfl h1 (by decide) kt kf
theorem uX11_reason_36 {d : Nat} {Q : Int → yM → Prop} {M : yM} {x1 : Int} {x2 : Int} (k : Q (-9) M) : XW kX11_reason d (some .int) (wQi Q) 36 [some (.inr (.inr 0)), some (.inl x1), some (.inl x2)] [] M := by
  refine x_bipush (-9) rfl (by decide) ?_
  exact x_ireturn rfl k
theorem uX11_reason_39 {d : Nat} {Q : Int → yM → Prop} {M : yM} {x1 : Int} {x2 : Int} (h1 : -2147483648 ≤ x1 ∧ x1 < 2147483648) (kt : x1 ≠ 0 → XW kX11_reason d (some .int) (wQi Q) 50 [some (.inr (.inr 0)), some (.inl x1), some (.inl x2)] [] M) (kf : x1 = 0 → XW kX11_reason d (some .int) (wQi Q) 43 [some (.inr (.inr 0)), some (.inl x1), some (.inl x2)] [] M) : XW kX11_reason d (some .int) (wQi Q) 39 [some (.inr (.inr 0)), some (.inl x1), some (.inl x2)] [] M := by
  refine x_iload_n rfl rfl ?_
  exact x_ifne rfl h1 kt kf
theorem uX11_reason_43 {d : Nat} {Q : Int → yM → Prop} {M : yM} {x1 : Int} {x2 : Int} (k : XCi d 179 [.inl x2] M (fun v M' => XW kX11_reason (d + 1) (some .int) (wQi Q) 47 [some (.inr (.inr 0)), some (.inl x1), some (.inl x2)] [.inl v] M')) : XW kX11_reason (d + 1) (some .int) (wQi Q) 43 [some (.inr (.inr 0)), some (.inl x1), some (.inl x2)] [] M := by
  refine x_iload_n rfl rfl ?_
  exact x_calli (args := [.inl x2]) rfl rfl rfl k
theorem uX11_reason_47 {d : Nat} {Q : Int → yM → Prop} {M : yM} {x1 : Int} {x2 : Int} {s0 : Int} (k : XW kX11_reason d (some .int) (wQi Q) 51 [some (.inr (.inr 0)), some (.inl x1), some (.inl x2)] [.inl s0] M) : XW kX11_reason d (some .int) (wQi Q) 47 [some (.inr (.inr 0)), some (.inl x1), some (.inl x2)] [.inl s0] M := by
  exact x_goto rfl k
theorem uX11_reason_50 {d : Nat} {Q : Int → yM → Prop} {M : yM} {x1 : Int} {x2 : Int} (k : XW kX11_reason d (some .int) (wQi Q) 51 [some (.inr (.inr 0)), some (.inl x1), some (.inl x2)] [.inl x2] M) : XW kX11_reason d (some .int) (wQi Q) 50 [some (.inr (.inr 0)), some (.inl x1), some (.inl x2)] [] M := by
  refine x_iload_n rfl rfl ?_
  exact k
theorem uX11_reason_51 {d : Nat} {Q : Int → yM → Prop} {M : yM} {x1 : Int} {x2 : Int} {s0 : Int} (k : Q s0 M) : XW kX11_reason d (some .int) (wQi Q) 51 [some (.inr (.inr 0)), some (.inl x1), some (.inl x2)] [.inl s0] M := by
  exact x_ireturn rfl k
theorem eX11_type {d : Nat} {Q : Int → yM → Prop} {M : yM} {x1 : Int} {x3 : Int}  (h : XW kX11_type d (some .int) (wQi Q) 0 [some (.inr (.inr 0)), some (.inr (.inl x1)), none, some (.inl x3), none] [] M) : XCi d 101 [.inr (.inr 0), .inr (.inl x1), .inl x3] M Q :=
  XC.ofW (Mm := (yX11_type, cX11_type, 5, (some .int), 12, kX11_type)) rfl (rcv_ok sh0) rfl rfl h
theorem uX11_type_0 {d : Nat} {Q : Int → yM → Prop} {M : yM} {x1 : Int} {x3 : Int} (h1 : -2147483648 ≤ x3 ∧ x3 < 2147483648) (kt : x3 < 1 → XW kX11_type d (some .int) (wQi Q) 11 [some (.inr (.inr 0)), some (.inr (.inl x1)), none, some (.inl x3), none] [] M) (kf : x3 ≥ 1 → XW kX11_type d (some .int) (wQi Q) 5 [some (.inr (.inr 0)), some (.inr (.inl x1)), none, some (.inl x3), none] [] M) : XW kX11_type d (some .int) (wQi Q) 0 [some (.inr (.inr 0)), some (.inr (.inl x1)), none, some (.inl x3), none] [] M := by
  refine x_iload_n rfl rfl ?_
  refine x_iconst 1 rfl (by decide) ?_
  exact x_icmplt rfl h1 (by decide) kt kf
theorem uX11_type_5 {d : Nat} {Q : Int → yM → Prop} {M : yM} {x1 : Int} {x3 : Int} (h1 : -2147483648 ≤ x3 ∧ x3 < 2147483648) (kt : x3 ≤ 8 → XW kX11_type d (some .int) (wQi Q) 13 [some (.inr (.inr 0)), some (.inr (.inl x1)), none, some (.inl x3), none] [] M) (kf : x3 > 8 → XW kX11_type d (some .int) (wQi Q) 11 [some (.inr (.inr 0)), some (.inr (.inl x1)), none, some (.inl x3), none] [] M) : XW kX11_type d (some .int) (wQi Q) 5 [some (.inr (.inr 0)), some (.inr (.inl x1)), none, some (.inl x3), none] [] M := by
  refine x_iload_n rfl rfl ?_
  refine x_bipush 8 rfl (by decide) ?_
  exact x_icmple rfl h1 (by decide) kt kf
theorem uX11_type_11 {d : Nat} {Q : Int → yM → Prop} {M : yM} {x1 : Int} {x3 : Int} (k : Q (-1) M) : XW kX11_type d (some .int) (wQi Q) 11 [some (.inr (.inr 0)), some (.inr (.inl x1)), none, some (.inl x3), none] [] M := by
  refine x_iconst (-1) rfl (by decide) ?_
  exact x_ireturn rfl k
theorem uX11_type_13 {d : Nat} {Q : Int → yM → Prop} {M : yM} {x1 : Int} {x3 : Int} (h1 : -2147483648 ≤ ((ld M 77 1) + x3) ∧ ((ld M 77 1) + x3) < 2147483648) (kt : ((ld M 77 1) + x3) ≤ 60 → XW kX11_type d (some .int) (wQi Q) 30 [some (.inr (.inr 0)), some (.inr (.inl x1)), none, some (.inl x3), none] [] M) (kf : ((ld M 77 1) + x3) > 60 → XW kX11_type d (some .int) (wQi Q) 27 [some (.inr (.inr 0)), some (.inr (.inl x1)), none, some (.inl x3), none] [] M) : XW kX11_type d (some .int) (wQi Q) 13 [some (.inr (.inr 0)), some (.inr (.inl x1)), none, some (.inl x3), none] [] M := by
  refine x_aload_n rfl rfl ?_
  refine x_getR rfl sh0 rfl ?_
  refine x_getI rfl sh77 rfl ?_
  refine x_iload_n rfl rfl ?_
  refine x_iadd rfl ?_
  refine x_bipush 60 rfl (by decide) ?_
  exact x_icmple rfl h1 (by decide) kt kf
theorem uX11_type_27 {d : Nat} {Q : Int → yM → Prop} {M : yM} {x1 : Int} {x3 : Int} (k : Q (-3) M) : XW kX11_type d (some .int) (wQi Q) 27 [some (.inr (.inr 0)), some (.inr (.inl x1)), none, some (.inl x3), none] [] M := by
  refine x_bipush (-3) rfl (by decide) ?_
  exact x_ireturn rfl k
theorem uX11_type_30 {d : Nat} {Q : Int → yM → Prop} {M : yM} {x1 : Int} {x3 : Int} (k : XW kX11_type d (some .int) (wQi Q) 35 [some (.inr (.inr 0)), some (.inr (.inl x1)), none, some (.inl x3), some (.inl (x3 - 1))] [] M) : XW kX11_type d (some .int) (wQi Q) 30 [some (.inr (.inr 0)), some (.inr (.inl x1)), none, some (.inl x3), none] [] M := by
  refine x_iload_n rfl rfl ?_
  refine x_iconst 1 rfl (by decide) ?_
  refine x_isub rfl ?_
  refine x_istore rfl (Nat.le_of_ble_eq_true rfl) rfl ?_
  exact k
theorem uX11_type_35 {d : Nat} {Q : Int → yM → Prop} {M : yM} {x1 : Int} {x3 : Int} {x4 : Int} (h1 : -2147483648 ≤ x4 ∧ x4 < 2147483648) (kt : x4 < 0 → XW kX11_type d (some .int) (wQi Q) 65 [some (.inr (.inr 0)), some (.inr (.inl x1)), none, some (.inl x3), some (.inl x4)] [] M) (kf : x4 ≥ 0 → XW kX11_type d (some .int) (wQi Q) 40 [some (.inr (.inr 0)), some (.inr (.inl x1)), none, some (.inl x3), some (.inl x4)] [] M) : XW kX11_type d (some .int) (wQi Q) 35 [some (.inr (.inr 0)), some (.inr (.inl x1)), none, some (.inl x3), some (.inl x4)] [] M := by
  refine x_iload rfl rfl ?_
  exact x_iflt rfl h1 kt kf
theorem uX11_type_40 {d : Nat} {Q : Int → yM → Prop} {M : yM} {x1 : Int} {x3 : Int} {x4 : Int} (k : XCv d 6 [.inr (.inr 77), .inl (yand (zushr x1 (8 * x4)) 255)] M (fun M' => XW kX11_type (d + 1) (some .int) (wQi Q) 59 [some (.inr (.inr 0)), some (.inr (.inl x1)), none, some (.inl x3), some (.inl x4)] [] M')) : XW kX11_type (d + 1) (some .int) (wQi Q) 40 [some (.inr (.inr 0)), some (.inr (.inl x1)), none, some (.inl x3), some (.inl x4)] [] M := by
  refine x_aload_n rfl rfl ?_
  refine x_getR rfl sh0 rfl ?_
  refine x_lload_n rfl rfl ?_
  refine x_bipush 8 rfl (by decide) ?_
  refine x_iload rfl rfl ?_
  refine x_imul rfl ?_
  refine x_lushr rfl ?_
  refine x_l2i rfl ?_
  refine x_sipush 255 rfl (by decide) ?_
  refine x_iand rfl ?_
  exact x_callv (args := [.inr (.inr 77), .inl (yand (zushr x1 (8 * x4)) 255)]) rfl rfl rfl k
theorem uX11_type_59 {d : Nat} {Q : Int → yM → Prop} {M : yM} {x1 : Int} {x3 : Int} {x4 : Int} (k : XW kX11_type d (some .int) (wQi Q) 35 [some (.inr (.inr 0)), some (.inr (.inl x1)), none, some (.inl x3), some (.inl (x4 + (-1)))] [] M) : XW kX11_type d (some .int) (wQi Q) 59 [some (.inr (.inr 0)), some (.inr (.inl x1)), none, some (.inl x3), some (.inl x4)] [] M := by
  refine x_iinc (-1) rfl (by decide) rfl rfl ?_
  exact x_goto rfl k
theorem uX11_type_65 {d : Nat} {Q : Int → yM → Prop} {M : yM} {x1 : Int} {x3 : Int} {x4 : Int} (k : Q (ld M 77 1) M) : XW kX11_type d (some .int) (wQi Q) 65 [some (.inr (.inr 0)), some (.inr (.inl x1)), none, some (.inl x3), some (.inl x4)] [] M := by
  refine x_aload_n rfl rfl ?_
  refine x_getR rfl sh0 rfl ?_
  refine x_getI rfl sh77 rfl ?_
  exact x_ireturn rfl k
theorem eX11_clear {d : Nat} {Q : Int → yM → Prop} {M : yM}   (h : XW kX11_clear d (some .int) (wQi Q) 0 [some (.inr (.inr 0)), none] [] M) : XCi d 102 [.inr (.inr 0)] M Q :=
  XC.ofW (Mm := (yX11_clear, cX11_clear, 2, (some .int), 12, kX11_clear)) rfl (rcv_ok sh0) rfl rfl h
theorem uX11_clear_0 {d : Nat} {Q : Int → yM → Prop} {M : yM}  (k : ∀ M', M' = (put M 77 1 0) → XW kX11_clear d (some .int) (wQi Q) 16 [some (.inr (.inr 0)), some (.inl (ld M 77 1))] [] M') : XW kX11_clear d (some .int) (wQi Q) 0 [some (.inr (.inr 0)), none] [] M := by
  refine x_aload_n rfl rfl ?_
  refine x_getR rfl sh0 rfl ?_
  refine x_getI rfl sh77 rfl ?_
  refine x_istore_n rfl (Nat.le_of_ble_eq_true rfl) rfl ?_
  refine x_aload_n rfl rfl ?_
  refine x_getR rfl sh0 rfl ?_
  refine x_iconst 0 rfl (by decide) ?_
  refine x_putI rfl rfl sh77 rfl ?_
  exact k _ rfl
theorem uX11_clear_16 {d : Nat} {Q : Int → yM → Prop} {M : yM} {x1 : Int} (k : Q x1 M) : XW kX11_clear d (some .int) (wQi Q) 16 [some (.inr (.inr 0)), some (.inl x1)] [] M := by
  refine x_iload_n rfl rfl ?_
  exact x_ireturn rfl k
theorem eX11_read {d : Nat} {Q : Int → yM → Prop} {M : yM} {x1 : Int}  (h : XW kX11_read d (some .int) (wQi Q) 0 [some (.inr (.inr 0)), some (.inl x1), none] [] M) : XCi d 103 [.inr (.inr 0), .inl x1] M Q :=
  XC.ofW (Mm := (yX11_read, cX11_read, 3, (some .int), 12, kX11_read)) rfl (rcv_ok sh0) rfl rfl h
theorem uX11_read_0 {d : Nat} {Q : Int → yM → Prop} {M : yM} {x1 : Int} (k : XCi d 112 [.inl x1] M (fun v M' => XW kX11_read (d + 1) (some .int) (wQi Q) 4 [some (.inr (.inr 0)), some (.inl x1), none] [.inl v] M')) : XW kX11_read (d + 1) (some .int) (wQi Q) 0 [some (.inr (.inr 0)), some (.inl x1), none] [] M := by
  refine x_iload_n rfl rfl ?_
  exact x_calli (args := [.inl x1]) rfl rfl rfl k
theorem uX11_read_4 {d : Nat} {Q : Int → yM → Prop} {M : yM} {x1 : Int} {s0 : Int} (h1 : -2147483648 ≤ s0 ∧ s0 < 2147483648) (kt : s0 ≠ 0 → XW kX11_read d (some .int) (wQi Q) 9 [some (.inr (.inr 0)), some (.inl x1), none] [] M) (kf : s0 = 0 → XW kX11_read d (some .int) (wQi Q) 7 [some (.inr (.inr 0)), some (.inl x1), none] [] M) : XW kX11_read d (some .int) (wQi Q) 4 [some (.inr (.inr 0)), some (.inl x1), none] [.inl s0] M := by
  exact x_ifne rfl h1 kt kf
theorem uX11_read_7 {d : Nat} {Q : Int → yM → Prop} {M : yM} {x1 : Int} (k : Q (-1) M) : XW kX11_read d (some .int) (wQi Q) 7 [some (.inr (.inr 0)), some (.inl x1), none] [] M := by
  refine x_iconst (-1) rfl (by decide) ?_
  exact x_ireturn rfl k
theorem uX11_read_9 {d : Nat} {Q : Int → yM → Prop} {M : yM} {x1 : Int} (k : XCi d 7 [.inr (.inr 77), .inl (ld M 1 0)] M (fun v M' => XW kX11_read (d + 1) (some .int) (wQi Q) 23 [some (.inr (.inr 0)), some (.inl x1), none] [.inl v] M')) : XW kX11_read (d + 1) (some .int) (wQi Q) 9 [some (.inr (.inr 0)), some (.inl x1), none] [] M := by
  refine x_aload_n rfl rfl ?_
  refine x_getR rfl sh0 rfl ?_
  refine x_aload_n rfl rfl ?_
  refine x_getR rfl sh0 rfl ?_
  refine x_getI rfl sh1 rfl ?_
  exact x_calli (args := [.inr (.inr 77), .inl (ld M 1 0)]) rfl rfl rfl k
theorem uX11_read_23 {d : Nat} {Q : Int → yM → Prop} {M : yM} {x1 : Int} {s0 : Int} (h1 : -2147483648 ≤ s0 ∧ s0 < 2147483648) (kt : s0 < 0 → XW kX11_read d (some .int) (wQi Q) 33 [some (.inr (.inr 0)), some (.inl x1), some (.inl s0)] [] M) (kf : s0 ≥ 0 → XW kX11_read d (some .int) (wQi Q) 28 [some (.inr (.inr 0)), some (.inl x1), some (.inl s0)] [] M) : XW kX11_read d (some .int) (wQi Q) 23 [some (.inr (.inr 0)), some (.inl x1), none] [.inl s0] M := by
  refine x_istore_n rfl (Nat.le_of_ble_eq_true rfl) rfl ?_
  refine x_iload_n rfl rfl ?_
  exact x_iflt rfl h1 kt kf
theorem uX11_read_28 {d : Nat} {Q : Int → yM → Prop} {M : yM} {x1 : Int} {x2 : Int} (k : Q ((-10) - x2) M) : XW kX11_read d (some .int) (wQi Q) 28 [some (.inr (.inr 0)), some (.inl x1), some (.inl x2)] [] M := by
  refine x_bipush (-10) rfl (by decide) ?_
  refine x_iload_n rfl rfl ?_
  refine x_isub rfl ?_
  exact x_ireturn rfl k
theorem uX11_read_33 {d : Nat} {Q : Int → yM → Prop} {M : yM} {x1 : Int} {x2 : Int} (h1 : 0 ≤ x1 ∧ x1 < 4) (k : XCv d 82 [.inr (.inr (84 + 2 * (x1).toNat)), .inr (.inr 77)] M (fun M' => XW kX11_read (d + 1) (some .int) (wQi Q) 46 [some (.inr (.inr 0)), some (.inl x1), some (.inl x2)] [] M')) : XW kX11_read (d + 1) (some .int) (wQi Q) 33 [some (.inr (.inr 0)), some (.inl x1), some (.inl x2)] [] M := by
  refine x_aload_n rfl rfl ?_
  refine x_getR rfl sh0 rfl ?_
  refine x_iload_n rfl rfl ?_
  refine x_aaload rfl ⟨sh83, Nat.le_of_ble_eq_true rfl⟩ (by decide) h1 (yref83 h1) ?_
  refine x_aload_n rfl rfl ?_
  refine x_getR rfl sh0 rfl ?_
  exact x_callv (args := [.inr (.inr (84 + 2 * (x1).toNat)), .inr (.inr 77)]) rfl rfl rfl k
theorem uX11_read_46 {d : Nat} {Q : Int → yM → Prop} {M : yM} {x1 : Int} {x2 : Int} (k : ∀ M', M' = (put M 77 1 0) → XW kX11_read d (some .int) (wQi Q) 54 [some (.inr (.inr 0)), some (.inl x1), some (.inl x2)] [] M') : XW kX11_read d (some .int) (wQi Q) 46 [some (.inr (.inr 0)), some (.inl x1), some (.inl x2)] [] M := by
  refine x_aload_n rfl rfl ?_
  refine x_getR rfl sh0 rfl ?_
  refine x_iconst 0 rfl (by decide) ?_
  refine x_putI rfl rfl sh77 rfl ?_
  exact k _ rfl
theorem uX11_read_54 {d : Nat} {Q : Int → yM → Prop} {M : yM} {x1 : Int} {x2 : Int} (k : Q 1 M) : XW kX11_read d (some .int) (wQi Q) 54 [some (.inr (.inr 0)), some (.inl x1), some (.inl x2)] [] M := by
  refine x_iconst 1 rfl (by decide) ?_
  exact x_ireturn rfl k
theorem eX11_value {d : Nat} {Q : Int → yM → Prop} {M : yM} {x1 : Int} {x2 : Int} {x3 : Int} {x4 : Int}  (h : XW kX11_value d (some .int) (wQi Q) 0 [some (.inr (.inr 0)), some (.inl x1), some (.inl x2), some (.inl x3), some (.inl x4)] [] M) : XCi d 104 [.inr (.inr 0), .inl x1, .inl x2, .inl x3, .inl x4] M Q :=
  XC.ofW (Mm := (yX11_value, cX11_value, 5, (some .int), 12, kX11_value)) rfl (rcv_ok sh0) rfl rfl h
theorem uX11_value_0 {d : Nat} {Q : Int → yM → Prop} {M : yM} {x1 : Int} {x2 : Int} {x3 : Int} {x4 : Int} (k : XCi d 112 [.inl x1] M (fun v M' => XW kX11_value (d + 1) (some .int) (wQi Q) 4 [some (.inr (.inr 0)), some (.inl x1), some (.inl x2), some (.inl x3), some (.inl x4)] [.inl v] M')) : XW kX11_value (d + 1) (some .int) (wQi Q) 0 [some (.inr (.inr 0)), some (.inl x1), some (.inl x2), some (.inl x3), some (.inl x4)] [] M := by
  refine x_iload_n rfl rfl ?_
  exact x_calli (args := [.inl x1]) rfl rfl rfl k
theorem uX11_value_4 {d : Nat} {Q : Int → yM → Prop} {M : yM} {x1 : Int} {x2 : Int} {x3 : Int} {x4 : Int} {s0 : Int} (h1 : -2147483648 ≤ s0 ∧ s0 < 2147483648) (kt : s0 = 0 → XW kX11_value d (some .int) (wQi Q) 41 [some (.inr (.inr 0)), some (.inl x1), some (.inl x2), some (.inl x3), some (.inl x4)] [] M) (kf : s0 ≠ 0 → XW kX11_value d (some .int) (wQi Q) 7 [some (.inr (.inr 0)), some (.inl x1), some (.inl x2), some (.inl x3), some (.inl x4)] [] M) : XW kX11_value d (some .int) (wQi Q) 4 [some (.inr (.inr 0)), some (.inl x1), some (.inl x2), some (.inl x3), some (.inl x4)] [.inl s0] M := by
  exact x_ifeq rfl h1 kt kf
theorem uX11_value_7 {d : Nat} {Q : Int → yM → Prop} {M : yM} {x1 : Int} {x2 : Int} {x3 : Int} {x4 : Int} (k : XCi d 61 [.inr (.inr 1), .inl x2] M (fun v M' => XW kX11_value (d + 1) (some .int) (wQi Q) 15 [some (.inr (.inr 0)), some (.inl x1), some (.inl x2), some (.inl x3), some (.inl x4)] [.inl v] M')) : XW kX11_value (d + 1) (some .int) (wQi Q) 7 [some (.inr (.inr 0)), some (.inl x1), some (.inl x2), some (.inl x3), some (.inl x4)] [] M := by
  refine x_aload_n rfl rfl ?_
  refine x_getR rfl sh0 rfl ?_
  refine x_iload_n rfl rfl ?_
  exact x_calli (args := [.inr (.inr 1), .inl x2]) rfl rfl rfl k
theorem uX11_value_15 {d : Nat} {Q : Int → yM → Prop} {M : yM} {x1 : Int} {x2 : Int} {x3 : Int} {x4 : Int} {s0 : Int} (h1 : -2147483648 ≤ s0 ∧ s0 < 2147483648) (kt : s0 = 0 → XW kX11_value d (some .int) (wQi Q) 41 [some (.inr (.inr 0)), some (.inl x1), some (.inl x2), some (.inl x3), some (.inl x4)] [] M) (kf : s0 ≠ 0 → XW kX11_value d (some .int) (wQi Q) 18 [some (.inr (.inr 0)), some (.inl x1), some (.inl x2), some (.inl x3), some (.inl x4)] [] M) : XW kX11_value d (some .int) (wQi Q) 15 [some (.inr (.inr 0)), some (.inl x1), some (.inl x2), some (.inl x3), some (.inl x4)] [.inl s0] M := by
  exact x_ifeq rfl h1 kt kf
theorem uX11_value_18 {d : Nat} {Q : Int → yM → Prop} {M : yM} {x1 : Int} {x2 : Int} {x3 : Int} {x4 : Int} (k : XCi d 61 [.inr (.inr 1), .inl x3] M (fun v M' => XW kX11_value (d + 1) (some .int) (wQi Q) 26 [some (.inr (.inr 0)), some (.inl x1), some (.inl x2), some (.inl x3), some (.inl x4)] [.inl v] M')) : XW kX11_value (d + 1) (some .int) (wQi Q) 18 [some (.inr (.inr 0)), some (.inl x1), some (.inl x2), some (.inl x3), some (.inl x4)] [] M := by
  refine x_aload_n rfl rfl ?_
  refine x_getR rfl sh0 rfl ?_
  refine x_iload_n rfl rfl ?_
  exact x_calli (args := [.inr (.inr 1), .inl x3]) rfl rfl rfl k
theorem uX11_value_26 {d : Nat} {Q : Int → yM → Prop} {M : yM} {x1 : Int} {x2 : Int} {x3 : Int} {x4 : Int} {s0 : Int} (h1 : -2147483648 ≤ s0 ∧ s0 < 2147483648) (kt : s0 = 0 → XW kX11_value d (some .int) (wQi Q) 41 [some (.inr (.inr 0)), some (.inl x1), some (.inl x2), some (.inl x3), some (.inl x4)] [] M) (kf : s0 ≠ 0 → XW kX11_value d (some .int) (wQi Q) 29 [some (.inr (.inr 0)), some (.inl x1), some (.inl x2), some (.inl x3), some (.inl x4)] [] M) : XW kX11_value d (some .int) (wQi Q) 26 [some (.inr (.inr 0)), some (.inl x1), some (.inl x2), some (.inl x3), some (.inl x4)] [.inl s0] M := by
  exact x_ifeq rfl h1 kt kf
theorem uX11_value_29 {d : Nat} {Q : Int → yM → Prop} {M : yM} {x1 : Int} {x2 : Int} {x3 : Int} {x4 : Int} (k : XCi d 61 [.inr (.inr 1), .inl x4] M (fun v M' => XW kX11_value (d + 1) (some .int) (wQi Q) 38 [some (.inr (.inr 0)), some (.inl x1), some (.inl x2), some (.inl x3), some (.inl x4)] [.inl v] M')) : XW kX11_value (d + 1) (some .int) (wQi Q) 29 [some (.inr (.inr 0)), some (.inl x1), some (.inl x2), some (.inl x3), some (.inl x4)] [] M := by
  refine x_aload_n rfl rfl ?_
  refine x_getR rfl sh0 rfl ?_
  refine x_iload rfl rfl ?_
  exact x_calli (args := [.inr (.inr 1), .inl x4]) rfl rfl rfl k
theorem uX11_value_38 {d : Nat} {Q : Int → yM → Prop} {M : yM} {x1 : Int} {x2 : Int} {x3 : Int} {x4 : Int} {s0 : Int} (h1 : -2147483648 ≤ s0 ∧ s0 < 2147483648) (kt : s0 ≠ 0 → XW kX11_value d (some .int) (wQi Q) 43 [some (.inr (.inr 0)), some (.inl x1), some (.inl x2), some (.inl x3), some (.inl x4)] [] M) (kf : s0 = 0 → XW kX11_value d (some .int) (wQi Q) 41 [some (.inr (.inr 0)), some (.inl x1), some (.inl x2), some (.inl x3), some (.inl x4)] [] M) : XW kX11_value d (some .int) (wQi Q) 38 [some (.inr (.inr 0)), some (.inl x1), some (.inl x2), some (.inl x3), some (.inl x4)] [.inl s0] M := by
  exact x_ifne rfl h1 kt kf
theorem uX11_value_41 {d : Nat} {Q : Int → yM → Prop} {M : yM} {x1 : Int} {x2 : Int} {x3 : Int} {x4 : Int} (k : Q (-1) M) : XW kX11_value d (some .int) (wQi Q) 41 [some (.inr (.inr 0)), some (.inl x1), some (.inl x2), some (.inl x3), some (.inl x4)] [] M := by
  refine x_iconst (-1) rfl (by decide) ?_
  exact x_ireturn rfl k
theorem uX11_value_43 {d : Nat} {Q : Int → yM → Prop} {M : yM} {x1 : Int} {x2 : Int} {x3 : Int} {x4 : Int} (h1 : 0 ≤ x1 ∧ x1 < 4) (k : XCi d 15 [.inr (.inr 81), .inr (.inr (84 + 2 * (x1).toNat)), .inl x2, .inl x3, .inl x4] M (fun v M' => XW kX11_value (d + 1) (some .int) (wQi Q) 60 [some (.inr (.inr 0)), some (.inl x1), some (.inl x2), some (.inl x3), some (.inl x4)] [.inl v] M')) : XW kX11_value (d + 1) (some .int) (wQi Q) 43 [some (.inr (.inr 0)), some (.inl x1), some (.inl x2), some (.inl x3), some (.inl x4)] [] M := by
  refine x_aload_n rfl rfl ?_
  refine x_getR rfl sh0 rfl ?_
  refine x_aload_n rfl rfl ?_
  refine x_getR rfl sh0 rfl ?_
  refine x_iload_n rfl rfl ?_
  refine x_aaload rfl ⟨sh83, Nat.le_of_ble_eq_true rfl⟩ (by decide) h1 (yref83 h1) ?_
  refine x_iload_n rfl rfl ?_
  refine x_iload_n rfl rfl ?_
  refine x_iload rfl rfl ?_
  exact x_calli (args := [.inr (.inr 81), .inr (.inr (84 + 2 * (x1).toNat)), .inl x2, .inl x3, .inl x4]) rfl rfl rfl k
theorem uX11_value_60 {d : Nat} {Q : Int → yM → Prop} {M : yM} {x1 : Int} {x2 : Int} {x3 : Int} {x4 : Int} {s0 : Int} (k : Q s0 M) : XW kX11_value d (some .int) (wQi Q) 60 [some (.inr (.inr 0)), some (.inl x1), some (.inl x2), some (.inl x3), some (.inl x4)] [.inl s0] M := by
  exact x_ireturn rfl k
theorem eX11_against {d : Nat} {Q : Int → yM → Prop} {M : yM} {x1 : Int} {x2 : Int}  (h : XW kX11_against d (some .int) (wQi Q) 0 [some (.inr (.inr 0)), some (.inl x1), some (.inl x2), none] [] M) : XCi d 105 [.inr (.inr 0), .inl x1, .inl x2] M Q :=
  XC.ofW (Mm := (yX11_against, cX11_against, 4, (some .int), 12, kX11_against)) rfl (rcv_ok sh0) rfl rfl h
theorem uX11_against_0 {d : Nat} {Q : Int → yM → Prop} {M : yM} {x1 : Int} {x2 : Int} (k : XCi d 112 [.inl x1] M (fun v M' => XW kX11_against (d + 1) (some .int) (wQi Q) 4 [some (.inr (.inr 0)), some (.inl x1), some (.inl x2), none] [.inl v] M')) : XW kX11_against (d + 1) (some .int) (wQi Q) 0 [some (.inr (.inr 0)), some (.inl x1), some (.inl x2), none] [] M := by
  refine x_iload_n rfl rfl ?_
  exact x_calli (args := [.inl x1]) rfl rfl rfl k
theorem uX11_against_4 {d : Nat} {Q : Int → yM → Prop} {M : yM} {x1 : Int} {x2 : Int} {s0 : Int} (h1 : -2147483648 ≤ s0 ∧ s0 < 2147483648) (kt : s0 = 0 → XW kX11_against d (some .int) (wQi Q) 14 [some (.inr (.inr 0)), some (.inl x1), some (.inl x2), none] [] M) (kf : s0 ≠ 0 → XW kX11_against d (some .int) (wQi Q) 7 [some (.inr (.inr 0)), some (.inl x1), some (.inl x2), none] [] M) : XW kX11_against d (some .int) (wQi Q) 4 [some (.inr (.inr 0)), some (.inl x1), some (.inl x2), none] [.inl s0] M := by
  exact x_ifeq rfl h1 kt kf
theorem uX11_against_7 {d : Nat} {Q : Int → yM → Prop} {M : yM} {x1 : Int} {x2 : Int} (k : XCi d 112 [.inl x2] M (fun v M' => XW kX11_against (d + 1) (some .int) (wQi Q) 11 [some (.inr (.inr 0)), some (.inl x1), some (.inl x2), none] [.inl v] M')) : XW kX11_against (d + 1) (some .int) (wQi Q) 7 [some (.inr (.inr 0)), some (.inl x1), some (.inl x2), none] [] M := by
  refine x_iload_n rfl rfl ?_
  exact x_calli (args := [.inl x2]) rfl rfl rfl k
theorem uX11_against_11 {d : Nat} {Q : Int → yM → Prop} {M : yM} {x1 : Int} {x2 : Int} {s0 : Int} (h1 : -2147483648 ≤ s0 ∧ s0 < 2147483648) (kt : s0 ≠ 0 → XW kX11_against d (some .int) (wQi Q) 16 [some (.inr (.inr 0)), some (.inl x1), some (.inl x2), none] [] M) (kf : s0 = 0 → XW kX11_against d (some .int) (wQi Q) 14 [some (.inr (.inr 0)), some (.inl x1), some (.inl x2), none] [] M) : XW kX11_against d (some .int) (wQi Q) 11 [some (.inr (.inr 0)), some (.inl x1), some (.inl x2), none] [.inl s0] M := by
  exact x_ifne rfl h1 kt kf
theorem uX11_against_14 {d : Nat} {Q : Int → yM → Prop} {M : yM} {x1 : Int} {x2 : Int} (k : Q (-1) M) : XW kX11_against d (some .int) (wQi Q) 14 [some (.inr (.inr 0)), some (.inl x1), some (.inl x2), none] [] M := by
  refine x_iconst (-1) rfl (by decide) ?_
  exact x_ireturn rfl k
theorem uX11_against_16 {d : Nat} {Q : Int → yM → Prop} {M : yM} {x1 : Int} {x2 : Int} (h1 : 0 ≤ x1 ∧ x1 < 4) (h2 : 0 ≤ x2 ∧ x2 < 4) (k : XCi d 179 [.inl (yor (ld M (84 + 2 * (x1).toNat) 2) (ld M (84 + 2 * (x2).toNat) 2))] M (fun v M' => XW kX11_against (d + 1) (some .int) (wQi Q) 47 [some (.inr (.inr 0)), some (.inl x1), some (.inl x2), some (.inl (yor (ld M (84 + 2 * (x1).toNat) 2) (ld M (84 + 2 * (x2).toNat) 2)))] [.inl v, .inl (ld M 1 0)] M')) : XW kX11_against (d + 1) (some .int) (wQi Q) 16 [some (.inr (.inr 0)), some (.inl x1), some (.inl x2), none] [] M := by
  refine x_aload_n rfl rfl ?_
  refine x_getR rfl sh0 rfl ?_
  refine x_iload_n rfl rfl ?_
  refine x_aaload rfl ⟨sh83, Nat.le_of_ble_eq_true rfl⟩ (by decide) h1 (yref83 h1) ?_
  refine x_getI rfl (yterm83 h1).1 rfl ?_
  refine x_aload_n rfl rfl ?_
  refine x_getR rfl sh0 rfl ?_
  refine x_iload_n rfl rfl ?_
  refine x_aaload rfl ⟨sh83, Nat.le_of_ble_eq_true rfl⟩ (by decide) h2 (yref83 h2) ?_
  refine x_getI rfl (yterm83 h2).1 rfl ?_
  refine x_ior rfl ?_
  refine x_istore_n rfl (Nat.le_of_ble_eq_true rfl) rfl ?_
  refine x_aload_n rfl rfl ?_
  refine x_getR rfl sh0 rfl ?_
  refine x_getI rfl sh1 rfl ?_
  refine x_iload_n rfl rfl ?_
  exact x_calli (args := [.inl (yor (ld M (84 + 2 * (x1).toNat) 2) (ld M (84 + 2 * (x2).toNat) 2))]) rfl rfl rfl k
theorem uX11_against_47 {d : Nat} {Q : Int → yM → Prop} {M : yM} {x1 : Int} {x2 : Int} {x3 : Int} {s0 : Int} {s1 : Int} (h1 : -2147483648 ≤ (s1 * s0) ∧ (s1 * s0) < 2147483648) (kt : (s1 * s0) ≤ 12 → XW kX11_against d (some .int) (wQi Q) 56 [some (.inr (.inr 0)), some (.inl x1), some (.inl x2), some (.inl x3)] [] M) (kf : (s1 * s0) > 12 → XW kX11_against d (some .int) (wQi Q) 53 [some (.inr (.inr 0)), some (.inl x1), some (.inl x2), some (.inl x3)] [] M) : XW kX11_against d (some .int) (wQi Q) 47 [some (.inr (.inr 0)), some (.inl x1), some (.inl x2), some (.inl x3)] [.inl s0, .inl s1] M := by
  refine x_imul rfl ?_
  refine x_bipush 12 rfl (by decide) ?_
  exact x_icmple rfl h1 (by decide) kt kf
theorem uX11_against_53 {d : Nat} {Q : Int → yM → Prop} {M : yM} {x1 : Int} {x2 : Int} {x3 : Int} (k : Q (-2) M) : XW kX11_against d (some .int) (wQi Q) 53 [some (.inr (.inr 0)), some (.inl x1), some (.inl x2), some (.inl x3)] [] M := by
  refine x_bipush (-2) rfl (by decide) ?_
  exact x_ireturn rfl k
theorem uX11_against_56 {d : Nat} {Q : Int → yM → Prop} {M : yM} {x1 : Int} {x2 : Int} {x3 : Int} (h1 : 0 ≤ x1 ∧ x1 < 4) (h2 : 0 ≤ x2 ∧ x2 < 4) (k : XCi d 18 [.inr (.inr 81), .inr (.inr (84 + 2 * (x1).toNat)), .inr (.inr (84 + 2 * (x2).toNat))] M (fun v M' => XW kX11_against (d + 1) (some .int) (wQi Q) 75 [some (.inr (.inr 0)), some (.inl x1), some (.inl x2), some (.inl x3)] [.inl v] M')) : XW kX11_against (d + 1) (some .int) (wQi Q) 56 [some (.inr (.inr 0)), some (.inl x1), some (.inl x2), some (.inl x3)] [] M := by
  refine x_aload_n rfl rfl ?_
  refine x_getR rfl sh0 rfl ?_
  refine x_aload_n rfl rfl ?_
  refine x_getR rfl sh0 rfl ?_
  refine x_iload_n rfl rfl ?_
  refine x_aaload rfl ⟨sh83, Nat.le_of_ble_eq_true rfl⟩ (by decide) h1 (yref83 h1) ?_
  refine x_aload_n rfl rfl ?_
  refine x_getR rfl sh0 rfl ?_
  refine x_iload_n rfl rfl ?_
  refine x_aaload rfl ⟨sh83, Nat.le_of_ble_eq_true rfl⟩ (by decide) h2 (yref83 h2) ?_
  exact x_calli (args := [.inr (.inr 81), .inr (.inr (84 + 2 * (x1).toNat)), .inr (.inr (84 + 2 * (x2).toNat))]) rfl rfl rfl k
theorem uX11_against_75 {d : Nat} {Q : Int → yM → Prop} {M : yM} {x1 : Int} {x2 : Int} {x3 : Int} {s0 : Int} (k : Q s0 M) : XW kX11_against d (some .int) (wQi Q) 75 [some (.inr (.inr 0)), some (.inl x1), some (.inl x2), some (.inl x3)] [.inl s0] M := by
  exact x_ireturn rfl k
theorem eX11_carried {d : Nat} {Q : Int → yM → Prop} {M : yM} {x1 : Int} {x2 : Int}  (h : XW kX11_carried d (some .int) (wQi Q) 0 [some (.inr (.inr 0)), some (.inl x1), some (.inl x2), none] [] M) : XCi d 106 [.inr (.inr 0), .inl x1, .inl x2] M Q :=
  XC.ofW (Mm := (yX11_carried, cX11_carried, 4, (some .int), 12, kX11_carried)) rfl (rcv_ok sh0) rfl rfl h
theorem uX11_carried_0 {d : Nat} {Q : Int → yM → Prop} {M : yM} {x1 : Int} {x2 : Int} (h1 : -2147483648 ≤ x1 ∧ x1 < 2147483648) (kt : x1 < 1 → XW kX11_carried d (some .int) (wQi Q) 17 [some (.inr (.inr 0)), some (.inl x1), some (.inl x2), none] [] M) (kf : x1 ≥ 1 → XW kX11_carried d (some .int) (wQi Q) 5 [some (.inr (.inr 0)), some (.inl x1), some (.inl x2), none] [] M) : XW kX11_carried d (some .int) (wQi Q) 0 [some (.inr (.inr 0)), some (.inl x1), some (.inl x2), none] [] M := by
  refine x_iload_n rfl rfl ?_
  refine x_iconst 1 rfl (by decide) ?_
  exact x_icmplt rfl h1 (by decide) kt kf
theorem uX11_carried_5 {d : Nat} {Q : Int → yM → Prop} {M : yM} {x1 : Int} {x2 : Int} (h1 : -2147483648 ≤ x1 ∧ x1 < 2147483648) (kt : x1 > 5 → XW kX11_carried d (some .int) (wQi Q) 17 [some (.inr (.inr 0)), some (.inl x1), some (.inl x2), none] [] M) (kf : x1 ≤ 5 → XW kX11_carried d (some .int) (wQi Q) 10 [some (.inr (.inr 0)), some (.inl x1), some (.inl x2), none] [] M) : XW kX11_carried d (some .int) (wQi Q) 5 [some (.inr (.inr 0)), some (.inl x1), some (.inl x2), none] [] M := by
  refine x_iload_n rfl rfl ?_
  refine x_iconst 5 rfl (by decide) ?_
  exact x_icmpgt rfl h1 (by decide) kt kf
theorem uX11_carried_10 {d : Nat} {Q : Int → yM → Prop} {M : yM} {x1 : Int} {x2 : Int} (k : XCi d 110 [.inl x2] M (fun v M' => XW kX11_carried (d + 1) (some .int) (wQi Q) 14 [some (.inr (.inr 0)), some (.inl x1), some (.inl x2), none] [.inl v] M')) : XW kX11_carried (d + 1) (some .int) (wQi Q) 10 [some (.inr (.inr 0)), some (.inl x1), some (.inl x2), none] [] M := by
  refine x_iload_n rfl rfl ?_
  exact x_calli (args := [.inl x2]) rfl rfl rfl k
theorem uX11_carried_14 {d : Nat} {Q : Int → yM → Prop} {M : yM} {x1 : Int} {x2 : Int} {s0 : Int} (h1 : -2147483648 ≤ s0 ∧ s0 < 2147483648) (kt : s0 ≠ 0 → XW kX11_carried d (some .int) (wQi Q) 19 [some (.inr (.inr 0)), some (.inl x1), some (.inl x2), none] [] M) (kf : s0 = 0 → XW kX11_carried d (some .int) (wQi Q) 17 [some (.inr (.inr 0)), some (.inl x1), some (.inl x2), none] [] M) : XW kX11_carried d (some .int) (wQi Q) 14 [some (.inr (.inr 0)), some (.inl x1), some (.inl x2), none] [.inl s0] M := by
  exact x_ifne rfl h1 kt kf
theorem uX11_carried_17 {d : Nat} {Q : Int → yM → Prop} {M : yM} {x1 : Int} {x2 : Int} (k : Q (-1) M) : XW kX11_carried d (some .int) (wQi Q) 17 [some (.inr (.inr 0)), some (.inl x1), some (.inl x2), none] [] M := by
  refine x_iconst (-1) rfl (by decide) ?_
  exact x_ireturn rfl k
theorem uX11_carried_19 {d : Nat} {Q : Int → yM → Prop} {M : yM} {x1 : Int} {x2 : Int} (k : XCi d 2 [.inr (.inr 73), .inl x1] M (fun v M' => XW kX11_carried (d + 1) (some .int) (wQi Q) 27 [some (.inr (.inr 0)), some (.inl x1), some (.inl x2), none] [.inl v] M')) : XW kX11_carried (d + 1) (some .int) (wQi Q) 19 [some (.inr (.inr 0)), some (.inl x1), some (.inl x2), none] [] M := by
  refine x_aload_n rfl rfl ?_
  refine x_getR rfl sh0 rfl ?_
  refine x_iload_n rfl rfl ?_
  exact x_calli (args := [.inr (.inr 73), .inl x1]) rfl rfl rfl k
theorem uX11_carried_27 {d : Nat} {Q : Int → yM → Prop} {M : yM} {x1 : Int} {x2 : Int} {s0 : Int} (h1 : -2147483648 ≤ s0 ∧ s0 < 2147483648) (kt : s0 ≤ 20000 → XW kX11_carried d (some .int) (wQi Q) 38 [some (.inr (.inr 0)), some (.inl x1), some (.inl x2), some (.inl s0)] [] M) (kf : s0 > 20000 → XW kX11_carried d (some .int) (wQi Q) 35 [some (.inr (.inr 0)), some (.inl x1), some (.inl x2), some (.inl s0)] [] M) : XW kX11_carried d (some .int) (wQi Q) 27 [some (.inr (.inr 0)), some (.inl x1), some (.inl x2), none] [.inl s0] M := by
  refine x_istore_n rfl (Nat.le_of_ble_eq_true rfl) rfl ?_
  refine x_iload_n rfl rfl ?_
  refine x_sipush 20000 rfl (by decide) ?_
  exact x_icmple rfl h1 (by decide) kt kf
theorem uX11_carried_35 {d : Nat} {Q : Int → yM → Prop} {M : yM} {x1 : Int} {x2 : Int} {x3 : Int} (k : Q (-5) M) : XW kX11_carried d (some .int) (wQi Q) 35 [some (.inr (.inr 0)), some (.inl x1), some (.inl x2), some (.inl x3)] [] M := by
  refine x_bipush (-5) rfl (by decide) ?_
  exact x_ireturn rfl k
theorem uX11_carried_38 {d : Nat} {Q : Int → yM → Prop} {M : yM} {x1 : Int} {x2 : Int} {x3 : Int} (h1 : -2147483648 ≤ x2 ∧ x2 < 2147483648) (kt : x2 ≠ 0 → XW kX11_carried d (some .int) (wQi Q) 46 [some (.inr (.inr 0)), some (.inl x1), some (.inl x2), some (.inl x3)] [] M) (kf : x2 = 0 → XW kX11_carried d (some .int) (wQi Q) 42 [some (.inr (.inr 0)), some (.inl x1), some (.inl x2), some (.inl x3)] [] M) : XW kX11_carried d (some .int) (wQi Q) 38 [some (.inr (.inr 0)), some (.inl x1), some (.inl x2), some (.inl x3)] [] M := by
  refine x_iload_n rfl rfl ?_
  exact x_ifne rfl h1 kt kf
theorem uX11_carried_42 {d : Nat} {Q : Int → yM → Prop} {M : yM} {x1 : Int} {x2 : Int} {x3 : Int} (k : XW kX11_carried d (some .int) (wQi Q) 54 [some (.inr (.inr 0)), some (.inl x1), some (.inl x2), some (.inl x3)] [.inl x3] M) : XW kX11_carried d (some .int) (wQi Q) 42 [some (.inr (.inr 0)), some (.inl x1), some (.inl x2), some (.inl x3)] [] M := by
  refine x_iload_n rfl rfl ?_
  exact x_goto rfl k
theorem uX11_carried_46 {d : Nat} {Q : Int → yM → Prop} {M : yM} {x1 : Int} {x2 : Int} {x3 : Int} (k : XCi d 3 [.inr (.inr 73), .inl x1] M (fun v M' => XW kX11_carried (d + 1) (some .int) (wQi Q) 54 [some (.inr (.inr 0)), some (.inl x1), some (.inl x2), some (.inl x3)] [.inl v] M')) : XW kX11_carried (d + 1) (some .int) (wQi Q) 46 [some (.inr (.inr 0)), some (.inl x1), some (.inl x2), some (.inl x3)] [] M := by
  refine x_aload_n rfl rfl ?_
  refine x_getR rfl sh0 rfl ?_
  refine x_iload_n rfl rfl ?_
  exact x_calli (args := [.inr (.inr 73), .inl x1]) rfl rfl rfl k
theorem uX11_carried_54 {d : Nat} {Q : Int → yM → Prop} {M : yM} {x1 : Int} {x2 : Int} {x3 : Int} {s0 : Int} (k : Q s0 M) : XW kX11_carried d (some .int) (wQi Q) 54 [some (.inr (.inr 0)), some (.inl x1), some (.inl x2), some (.inl x3)] [.inl s0] M := by
  exact x_ireturn rfl k
theorem eX11_count {d : Nat} {Q : Int → yM → Prop} {M : yM} {x1 : Int}  (h : XW kX11_count d (some .int) (wQi Q) 0 [some (.inr (.inr 0)), some (.inl x1)] [] M) : XCi d 107 [.inr (.inr 0), .inl x1] M Q :=
  XC.ofW (Mm := (yX11_count, cX11_count, 2, (some .int), 12, kX11_count)) rfl (rcv_ok sh0) rfl rfl h
theorem uX11_count_0 {d : Nat} {Q : Int → yM → Prop} {M : yM} {x1 : Int} (h1 : -2147483648 ≤ x1 ∧ x1 < 2147483648) (c0 : x1 = 0 → XW kX11_count d (some .int) (wQi Q) 36 [some (.inr (.inr 0)), some (.inl x1)] [] M) (c1 : x1 = 1 → XW kX11_count d (some .int) (wQi Q) 44 [some (.inr (.inr 0)), some (.inl x1)] [] M) (c2 : x1 = 2 → XW kX11_count d (some .int) (wQi Q) 52 [some (.inr (.inr 0)), some (.inl x1)] [] M) (c3 : x1 = 3 → XW kX11_count d (some .int) (wQi Q) 60 [some (.inr (.inr 0)), some (.inl x1)] [] M) (c4 : x1 = 4 → XW kX11_count d (some .int) (wQi Q) 68 [some (.inr (.inr 0)), some (.inl x1)] [] M) (df : x1 ≠ 0 → x1 ≠ 1 → x1 ≠ 2 → x1 ≠ 3 → x1 ≠ 4 → XW kX11_count d (some .int) (wQi Q) 76 [some (.inr (.inr 0)), some (.inl x1)] [] M) : XW kX11_count d (some .int) (wQi Q) 0 [some (.inr (.inr 0)), some (.inl x1)] [] M := by
  refine x_iload_n rfl rfl ?_
  by_cases q0 : x1 = 0
  · exact x_tsw rfl (by rw [q0]; rfl) (c0 q0)
  by_cases q1 : x1 = 1
  · exact x_tsw rfl (by rw [q1]; rfl) (c1 q1)
  by_cases q2 : x1 = 2
  · exact x_tsw rfl (by rw [q2]; rfl) (c2 q2)
  by_cases q3 : x1 = 3
  · exact x_tsw rfl (by rw [q3]; rfl) (c3 q3)
  by_cases q4 : x1 = 4
  · exact x_tsw rfl (by rw [q4]; rfl) (c4 q4)
  exact x_tsw rfl (ytab_df h1 (by show _ ∨ _; simp only [List.length_map, List.length_cons, List.length_nil]; omega)) (df q0 q1 q2 q3 q4)
theorem uX11_count_36 {d : Nat} {Q : Int → yM → Prop} {M : yM} {x1 : Int} (k : Q (ld M 1 0) M) : XW kX11_count d (some .int) (wQi Q) 36 [some (.inr (.inr 0)), some (.inl x1)] [] M := by
  refine x_aload_n rfl rfl ?_
  refine x_getR rfl sh0 rfl ?_
  refine x_getI rfl sh1 rfl ?_
  exact x_ireturn rfl k
theorem uX11_count_44 {d : Nat} {Q : Int → yM → Prop} {M : yM} {x1 : Int} (k : XCi d 73 [.inr (.inr 1)] M (fun v M' => XW kX11_count (d + 1) (some .int) (wQi Q) 51 [some (.inr (.inr 0)), some (.inl x1)] [.inl v] M')) : XW kX11_count (d + 1) (some .int) (wQi Q) 44 [some (.inr (.inr 0)), some (.inl x1)] [] M := by
  refine x_aload_n rfl rfl ?_
  refine x_getR rfl sh0 rfl ?_
  exact x_calli (args := [.inr (.inr 1)]) rfl rfl rfl k
theorem uX11_count_51 {d : Nat} {Q : Int → yM → Prop} {M : yM} {x1 : Int} {s0 : Int} (k : Q s0 M) : XW kX11_count d (some .int) (wQi Q) 51 [some (.inr (.inr 0)), some (.inl x1)] [.inl s0] M := by
  exact x_ireturn rfl k
theorem uX11_count_52 {d : Nat} {Q : Int → yM → Prop} {M : yM} {x1 : Int} (k : Q (ld M 19 0) M) : XW kX11_count d (some .int) (wQi Q) 52 [some (.inr (.inr 0)), some (.inl x1)] [] M := by
  refine x_aload_n rfl rfl ?_
  refine x_getR rfl sh0 rfl ?_
  refine x_getI rfl sh19 rfl ?_
  exact x_ireturn rfl k
theorem uX11_count_60 {d : Nat} {Q : Int → yM → Prop} {M : yM} {x1 : Int} (k : Q (ld M 7 0) M) : XW kX11_count d (some .int) (wQi Q) 60 [some (.inr (.inr 0)), some (.inl x1)] [] M := by
  refine x_aload_n rfl rfl ?_
  refine x_getR rfl sh0 rfl ?_
  refine x_getI rfl sh7 rfl ?_
  exact x_ireturn rfl k
theorem uX11_count_68 {d : Nat} {Q : Int → yM → Prop} {M : yM} {x1 : Int} (k : Q (ld M 77 1) M) : XW kX11_count d (some .int) (wQi Q) 68 [some (.inr (.inr 0)), some (.inl x1)] [] M := by
  refine x_aload_n rfl rfl ?_
  refine x_getR rfl sh0 rfl ?_
  refine x_getI rfl sh77 rfl ?_
  exact x_ireturn rfl k
theorem uX11_count_76 {d : Nat} {Q : Int → yM → Prop} {M : yM} {x1 : Int} (k : Q (-1) M) : XW kX11_count d (some .int) (wQi Q) 76 [some (.inr (.inr 0)), some (.inl x1)] [] M := by
  refine x_iconst (-1) rfl (by decide) ?_
  exact x_ireturn rfl k
theorem eX11_trace {d : Nat} {Q : Int → yM → Prop} {M : yM}   (h : XW kX11_trace d (some .long) (wQl Q) 0 [some (.inr (.inr 0))] [] M) : XCl d 108 [.inr (.inr 0)] M Q :=
  XC.ofW (Mm := (yX11_trace, cX11_trace, 1, (some .long), 12, kX11_trace)) rfl (rcv_ok sh0) rfl rfl h
theorem uX11_trace_0 {d : Nat} {Q : Int → yM → Prop} {M : yM}  (k : Q (ldL M 0 11) M) : XW kX11_trace d (some .long) (wQl Q) 0 [some (.inr (.inr 0))] [] M := by
  refine x_aload_n rfl rfl ?_
  refine x_getL rfl sh0 rfl ?_
  exact x_lreturn rfl k
theorem eX11_isOther {d : Nat} {Q : Int → yM → Prop} {M : yM} {x1 : Int}  (h : XW kX11_isOther d (some .boolean) (wQi Q) 0 [some (.inr (.inr 0)), some (.inl x1)] [] M) : XCi d 109 [.inr (.inr 0), .inl x1] M Q :=
  XC.ofW (Mm := (yX11_isOther, cX11_isOther, 2, (some .boolean), 12, kX11_isOther)) rfl (rcv_ok sh0) rfl rfl h
theorem uX11_isOther_0 {d : Nat} {Q : Int → yM → Prop} {M : yM} {x1 : Int} (h1 : -2147483648 ≤ x1 ∧ x1 < 2147483648) (kt : x1 ≤ 0 → XW kX11_isOther d (some .boolean) (wQi Q) 19 [some (.inr (.inr 0)), some (.inl x1)] [] M) (kf : x1 > 0 → XW kX11_isOther d (some .boolean) (wQi Q) 4 [some (.inr (.inr 0)), some (.inl x1)] [] M) : XW kX11_isOther d (some .boolean) (wQi Q) 0 [some (.inr (.inr 0)), some (.inl x1)] [] M := by
  refine x_iload_n rfl rfl ?_
  exact x_ifle rfl h1 kt kf
theorem uX11_isOther_4 {d : Nat} {Q : Int → yM → Prop} {M : yM} {x1 : Int} (h1 : -2147483648 ≤ x1 ∧ x1 < 2147483648) (kt : x1 ≥ (ld M 1 0) → XW kX11_isOther d (some .boolean) (wQi Q) 19 [some (.inr (.inr 0)), some (.inl x1)] [] M) (kf : x1 < (ld M 1 0) → XW kX11_isOther d (some .boolean) (wQi Q) 15 [some (.inr (.inr 0)), some (.inl x1)] [] M) : XW kX11_isOther d (some .boolean) (wQi Q) 4 [some (.inr (.inr 0)), some (.inl x1)] [] M := by
  refine x_iload_n rfl rfl ?_
  refine x_aload_n rfl rfl ?_
  refine x_getR rfl sh0 rfl ?_
  refine x_getI rfl sh1 rfl ?_
  exact x_icmpge rfl h1 (rng_ld _ _ _) kt kf
theorem uX11_isOther_15 {d : Nat} {Q : Int → yM → Prop} {M : yM} {x1 : Int} (k : XW kX11_isOther d (some .boolean) (wQi Q) 20 [some (.inr (.inr 0)), some (.inl x1)] [.inl 1] M) : XW kX11_isOther d (some .boolean) (wQi Q) 15 [some (.inr (.inr 0)), some (.inl x1)] [] M := by
  refine x_iconst 1 rfl (by decide) ?_
  exact x_goto rfl k
theorem uX11_isOther_19 {d : Nat} {Q : Int → yM → Prop} {M : yM} {x1 : Int} (k : XW kX11_isOther d (some .boolean) (wQi Q) 20 [some (.inr (.inr 0)), some (.inl x1)] [.inl 0] M) : XW kX11_isOther d (some .boolean) (wQi Q) 19 [some (.inr (.inr 0)), some (.inl x1)] [] M := by
  refine x_iconst 0 rfl (by decide) ?_
  exact k
theorem uX11_isOther_20 {d : Nat} {Q : Int → yM → Prop} {M : yM} {x1 : Int} {s0 : Int} (h1 : s0 = 0 ∨ s0 = 1) (k : Q s0 M) : XW kX11_isOther d (some .boolean) (wQi Q) 20 [some (.inr (.inr 0)), some (.inl x1)] [.inl s0] M := by
  exact x_zreturn rfl h1 k
theorem eX11_isChoice {d : Nat} {Q : Int → yM → Prop} {M : yM} {x0 : Int}  (h : XW kX11_isChoice d (some .boolean) (wQi Q) 0 [some (.inl x0)] [] M) : XCi d 110 [.inl x0] M Q :=
  XC.ofW (Mm := (yX11_isChoice, cX11_isChoice, 1, (some .boolean), 0, kX11_isChoice)) rfl rfl rfl rfl h
theorem uX11_isChoice_0 {d : Nat} {Q : Int → yM → Prop} {M : yM} {x0 : Int} (h1 : -2147483648 ≤ x0 ∧ x0 < 2147483648) (kt : x0 = 0 → XW kX11_isChoice d (some .boolean) (wQi Q) 9 [some (.inl x0)] [] M) (kf : x0 ≠ 0 → XW kX11_isChoice d (some .boolean) (wQi Q) 4 [some (.inl x0)] [] M) : XW kX11_isChoice d (some .boolean) (wQi Q) 0 [some (.inl x0)] [] M := by
  refine x_iload_n rfl rfl ?_
  exact x_ifeq rfl h1 kt kf
theorem uX11_isChoice_4 {d : Nat} {Q : Int → yM → Prop} {M : yM} {x0 : Int} (h1 : -2147483648 ≤ x0 ∧ x0 < 2147483648) (kt : x0 ≠ 1 → XW kX11_isChoice d (some .boolean) (wQi Q) 13 [some (.inl x0)] [] M) (kf : x0 = 1 → XW kX11_isChoice d (some .boolean) (wQi Q) 9 [some (.inl x0)] [] M) : XW kX11_isChoice d (some .boolean) (wQi Q) 4 [some (.inl x0)] [] M := by
  refine x_iload_n rfl rfl ?_
  refine x_iconst 1 rfl (by decide) ?_
  exact x_icmpne rfl h1 (by decide) kt kf
theorem uX11_isChoice_9 {d : Nat} {Q : Int → yM → Prop} {M : yM} {x0 : Int} (k : XW kX11_isChoice d (some .boolean) (wQi Q) 14 [some (.inl x0)] [.inl 1] M) : XW kX11_isChoice d (some .boolean) (wQi Q) 9 [some (.inl x0)] [] M := by
  refine x_iconst 1 rfl (by decide) ?_
  exact x_goto rfl k
theorem uX11_isChoice_13 {d : Nat} {Q : Int → yM → Prop} {M : yM} {x0 : Int} (k : XW kX11_isChoice d (some .boolean) (wQi Q) 14 [some (.inl x0)] [.inl 0] M) : XW kX11_isChoice d (some .boolean) (wQi Q) 13 [some (.inl x0)] [] M := by
  refine x_iconst 0 rfl (by decide) ?_
  exact k
theorem uX11_isChoice_14 {d : Nat} {Q : Int → yM → Prop} {M : yM} {x0 : Int} {s0 : Int} (h1 : s0 = 0 ∨ s0 = 1) (k : Q s0 M) : XW kX11_isChoice d (some .boolean) (wQi Q) 14 [some (.inl x0)] [.inl s0] M := by
  exact x_zreturn rfl h1 k
theorem eX11_isWay {d : Nat} {Q : Int → yM → Prop} {M : yM} {x0 : Int}  (h : XW kX11_isWay d (some .boolean) (wQi Q) 0 [some (.inl x0)] [] M) : XCi d 111 [.inl x0] M Q :=
  XC.ofW (Mm := (yX11_isWay, cX11_isWay, 1, (some .boolean), 0, kX11_isWay)) rfl rfl rfl rfl h
theorem uX11_isWay_0 {d : Nat} {Q : Int → yM → Prop} {M : yM} {x0 : Int} (h1 : -2147483648 ≤ x0 ∧ x0 < 2147483648) (kt : x0 < (-1) → XW kX11_isWay d (some .boolean) (wQi Q) 14 [some (.inl x0)] [] M) (kf : x0 ≥ (-1) → XW kX11_isWay d (some .boolean) (wQi Q) 5 [some (.inl x0)] [] M) : XW kX11_isWay d (some .boolean) (wQi Q) 0 [some (.inl x0)] [] M := by
  refine x_iload_n rfl rfl ?_
  refine x_iconst (-1) rfl (by decide) ?_
  exact x_icmplt rfl h1 (by decide) kt kf
theorem uX11_isWay_5 {d : Nat} {Q : Int → yM → Prop} {M : yM} {x0 : Int} (h1 : -2147483648 ≤ x0 ∧ x0 < 2147483648) (kt : x0 ≥ 3 → XW kX11_isWay d (some .boolean) (wQi Q) 14 [some (.inl x0)] [] M) (kf : x0 < 3 → XW kX11_isWay d (some .boolean) (wQi Q) 10 [some (.inl x0)] [] M) : XW kX11_isWay d (some .boolean) (wQi Q) 5 [some (.inl x0)] [] M := by
  refine x_iload_n rfl rfl ?_
  refine x_iconst 3 rfl (by decide) ?_
  exact x_icmpge rfl h1 (by decide) kt kf
theorem uX11_isWay_10 {d : Nat} {Q : Int → yM → Prop} {M : yM} {x0 : Int} (k : XW kX11_isWay d (some .boolean) (wQi Q) 15 [some (.inl x0)] [.inl 1] M) : XW kX11_isWay d (some .boolean) (wQi Q) 10 [some (.inl x0)] [] M := by
  refine x_iconst 1 rfl (by decide) ?_
  exact x_goto rfl k
theorem uX11_isWay_14 {d : Nat} {Q : Int → yM → Prop} {M : yM} {x0 : Int} (k : XW kX11_isWay d (some .boolean) (wQi Q) 15 [some (.inl x0)] [.inl 0] M) : XW kX11_isWay d (some .boolean) (wQi Q) 14 [some (.inl x0)] [] M := by
  refine x_iconst 0 rfl (by decide) ?_
  exact k
theorem uX11_isWay_15 {d : Nat} {Q : Int → yM → Prop} {M : yM} {x0 : Int} {s0 : Int} (h1 : s0 = 0 ∨ s0 = 1) (k : Q s0 M) : XW kX11_isWay d (some .boolean) (wQi Q) 15 [some (.inl x0)] [.inl s0] M := by
  exact x_zreturn rfl h1 k
theorem eX11_isTerm {d : Nat} {Q : Int → yM → Prop} {M : yM} {x0 : Int}  (h : XW kX11_isTerm d (some .boolean) (wQi Q) 0 [some (.inl x0)] [] M) : XCi d 112 [.inl x0] M Q :=
  XC.ofW (Mm := (yX11_isTerm, cX11_isTerm, 1, (some .boolean), 0, kX11_isTerm)) rfl rfl rfl rfl h
theorem uX11_isTerm_0 {d : Nat} {Q : Int → yM → Prop} {M : yM} {x0 : Int} (h1 : -2147483648 ≤ x0 ∧ x0 < 2147483648) (kt : x0 < 0 → XW kX11_isTerm d (some .boolean) (wQi Q) 13 [some (.inl x0)] [] M) (kf : x0 ≥ 0 → XW kX11_isTerm d (some .boolean) (wQi Q) 4 [some (.inl x0)] [] M) : XW kX11_isTerm d (some .boolean) (wQi Q) 0 [some (.inl x0)] [] M := by
  refine x_iload_n rfl rfl ?_
  exact x_iflt rfl h1 kt kf
theorem uX11_isTerm_4 {d : Nat} {Q : Int → yM → Prop} {M : yM} {x0 : Int} (h1 : -2147483648 ≤ x0 ∧ x0 < 2147483648) (kt : x0 ≥ 4 → XW kX11_isTerm d (some .boolean) (wQi Q) 13 [some (.inl x0)] [] M) (kf : x0 < 4 → XW kX11_isTerm d (some .boolean) (wQi Q) 9 [some (.inl x0)] [] M) : XW kX11_isTerm d (some .boolean) (wQi Q) 4 [some (.inl x0)] [] M := by
  refine x_iload_n rfl rfl ?_
  refine x_iconst 4 rfl (by decide) ?_
  exact x_icmpge rfl h1 (by decide) kt kf
theorem uX11_isTerm_9 {d : Nat} {Q : Int → yM → Prop} {M : yM} {x0 : Int} (k : XW kX11_isTerm d (some .boolean) (wQi Q) 14 [some (.inl x0)] [.inl 1] M) : XW kX11_isTerm d (some .boolean) (wQi Q) 9 [some (.inl x0)] [] M := by
  refine x_iconst 1 rfl (by decide) ?_
  exact x_goto rfl k
theorem uX11_isTerm_13 {d : Nat} {Q : Int → yM → Prop} {M : yM} {x0 : Int} (k : XW kX11_isTerm d (some .boolean) (wQi Q) 14 [some (.inl x0)] [.inl 0] M) : XW kX11_isTerm d (some .boolean) (wQi Q) 13 [some (.inl x0)] [] M := by
  refine x_iconst 0 rfl (by decide) ?_
  exact k
theorem uX11_isTerm_14 {d : Nat} {Q : Int → yM → Prop} {M : yM} {x0 : Int} {s0 : Int} (h1 : s0 = 0 ∨ s0 = 1) (k : Q s0 M) : XW kX11_isTerm d (some .boolean) (wQi Q) 14 [some (.inl x0)] [.inl s0] M := by
  exact x_zreturn rfl h1 k
theorem eX11_startAnew {d : Nat} {Q : yM → Prop} {M : yM}   (h : XW kX11_startAnew d none (wQv Q) 0 [some (.inr (.inr 0)), none] [] M) : XCv d 113 [.inr (.inr 0)] M Q :=
  XC.ofW (Mm := (yX11_startAnew, cX11_startAnew, 2, none, 12, kX11_startAnew)) rfl (rcv_ok sh0) rfl rfl h
theorem uX11_startAnew_0 {d : Nat} {Q : yM → Prop} {M : yM}  (k : XCi d 60 [.inr (.inr 1)] M (fun v M' => XW kX11_startAnew (d + 1) none (wQv Q) 18 [some (.inr (.inr 0)), none] [.inl v, .inl (ld M 19 0), .inr (.inr 19)] M')) : XW kX11_startAnew (d + 1) none (wQv Q) 0 [some (.inr (.inr 0)), none] [] M := by
  refine x_aload_n rfl rfl ?_
  refine x_getR rfl sh0 rfl ?_
  refine x_aload_n rfl rfl ?_
  refine x_getR rfl sh0 rfl ?_
  refine x_getI rfl sh19 rfl ?_
  refine x_aload_n rfl rfl ?_
  refine x_getR rfl sh0 rfl ?_
  exact x_calli (args := [.inr (.inr 1)]) rfl rfl rfl k
theorem uX11_startAnew_18 {d : Nat} {Q : yM → Prop} {M : yM} {s0 : Int} {s1 : Int} (k : XCv d 36 [.inr (.inr 19), .inl s1, .inl s0] M (fun M' => XW kX11_startAnew (d + 1) none (wQv Q) 21 [some (.inr (.inr 0)), none] [] M')) : XW kX11_startAnew (d + 1) none (wQv Q) 18 [some (.inr (.inr 0)), none] [.inl s0, .inl s1, .inr (.inr 19)] M := by
  exact x_callv (args := [.inr (.inr 19), .inl s1, .inl s0]) rfl rfl rfl k
theorem uX11_startAnew_21 {d : Nat} {Q : yM → Prop} {M : yM}  (k : XW kX11_startAnew d none (wQv Q) 23 [some (.inr (.inr 0)), some (.inl 0)] [] M) : XW kX11_startAnew d none (wQv Q) 21 [some (.inr (.inr 0)), none] [] M := by
  refine x_iconst 0 rfl (by decide) ?_
  refine x_istore_n rfl (Nat.le_of_ble_eq_true rfl) rfl ?_
  exact k
theorem uX11_startAnew_23 {d : Nat} {Q : yM → Prop} {M : yM} {x1 : Int} (h1 : -2147483648 ≤ x1 ∧ x1 < 2147483648) (kt : x1 ≥ 4 → XW kX11_startAnew d none (wQv Q) 43 [some (.inr (.inr 0)), some (.inl x1)] [] M) (kf : x1 < 4 → XW kX11_startAnew d none (wQv Q) 28 [some (.inr (.inr 0)), some (.inl x1)] [] M) : XW kX11_startAnew d none (wQv Q) 23 [some (.inr (.inr 0)), some (.inl x1)] [] M := by
  refine x_iload_n rfl rfl ?_
  refine x_iconst 4 rfl (by decide) ?_
  exact x_icmpge rfl h1 (by decide) kt kf
theorem uX11_startAnew_28 {d : Nat} {Q : yM → Prop} {M : yM} {x1 : Int} (h1 : 0 ≤ x1 ∧ x1 < 4) (k : XCv d 81 [.inr (.inr (84 + 2 * (x1).toNat))] M (fun M' => XW kX11_startAnew (d + 1) none (wQv Q) 37 [some (.inr (.inr 0)), some (.inl x1)] [] M')) : XW kX11_startAnew (d + 1) none (wQv Q) 28 [some (.inr (.inr 0)), some (.inl x1)] [] M := by
  refine x_aload_n rfl rfl ?_
  refine x_getR rfl sh0 rfl ?_
  refine x_iload_n rfl rfl ?_
  refine x_aaload rfl ⟨sh83, Nat.le_of_ble_eq_true rfl⟩ (by decide) h1 (yref83 h1) ?_
  exact x_callv (args := [.inr (.inr (84 + 2 * (x1).toNat))]) rfl rfl rfl k
theorem uX11_startAnew_37 {d : Nat} {Q : yM → Prop} {M : yM} {x1 : Int} (k : XW kX11_startAnew d none (wQv Q) 23 [some (.inr (.inr 0)), some (.inl (x1 + 1))] [] M) : XW kX11_startAnew d none (wQv Q) 37 [some (.inr (.inr 0)), some (.inl x1)] [] M := by
  refine x_iinc 1 rfl (by decide) rfl rfl ?_
  exact x_goto rfl k
theorem uX11_startAnew_43 {d : Nat} {Q : yM → Prop} {M : yM} {x1 : Int} (k : XCv d 114 [.inr (.inr 0)] M (fun M' => XW kX11_startAnew (d + 1) none (wQv Q) 47 [some (.inr (.inr 0)), some (.inl x1)] [] M')) : XW kX11_startAnew (d + 1) none (wQv Q) 43 [some (.inr (.inr 0)), some (.inl x1)] [] M := by
  refine x_aload_n rfl rfl ?_
  exact x_callv (args := [.inr (.inr 0)]) rfl rfl rfl k
theorem uX11_startAnew_47 {d : Nat} {Q : yM → Prop} {M : yM} {x1 : Int} (k : Q M) : XW kX11_startAnew d none (wQv Q) 47 [some (.inr (.inr 0)), some (.inl x1)] [] M := by
  exact x_return rfl k
theorem eX11_forgetTable {d : Nat} {Q : yM → Prop} {M : yM}   (h : XW kX11_forgetTable d none (wQv Q) 0 [some (.inr (.inr 0))] [] M) : XCv d 114 [.inr (.inr 0)] M Q :=
  XC.ofW (Mm := (yX11_forgetTable, cX11_forgetTable, 1, none, 12, kX11_forgetTable)) rfl (rcv_ok sh0) rfl rfl h
theorem uX11_forgetTable_0 {d : Nat} {Q : yM → Prop} {M : yM}  (k : XCv d 1 [.inr (.inr 73)] M (fun M' => XW kX11_forgetTable (d + 1) none (wQv Q) 7 [some (.inr (.inr 0))] [] M')) : XW kX11_forgetTable (d + 1) none (wQv Q) 0 [some (.inr (.inr 0))] [] M := by
  refine x_aload_n rfl rfl ?_
  refine x_getR rfl sh0 rfl ?_
  exact x_callv (args := [.inr (.inr 73)]) rfl rfl rfl k
theorem uX11_forgetTable_7 {d : Nat} {Q : yM → Prop} {M : yM}  (k : XCv d 115 [.inr (.inr 0)] M (fun M' => XW kX11_forgetTable (d + 1) none (wQv Q) 11 [some (.inr (.inr 0))] [] M')) : XW kX11_forgetTable (d + 1) none (wQv Q) 7 [some (.inr (.inr 0))] [] M := by
  refine x_aload_n rfl rfl ?_
  exact x_callv (args := [.inr (.inr 0)]) rfl rfl rfl k
theorem uX11_forgetTable_11 {d : Nat} {Q : yM → Prop} {M : yM}  (k : Q M) : XW kX11_forgetTable d none (wQv Q) 11 [some (.inr (.inr 0))] [] M := by
  exact x_return rfl k
theorem eX11_forgetNet {d : Nat} {Q : yM → Prop} {M : yM}   (h : XW kX11_forgetNet d none (wQv Q) 0 [some (.inr (.inr 0))] [] M) : XCv d 115 [.inr (.inr 0)] M Q :=
  XC.ofW (Mm := (yX11_forgetNet, cX11_forgetNet, 1, none, 12, kX11_forgetNet)) rfl (rcv_ok sh0) rfl rfl h
theorem uX11_forgetNet_0 {d : Nat} {Q : yM → Prop} {M : yM}  (k : XCv d 26 [.inr (.inr 56)] M (fun M' => XW kX11_forgetNet (d + 1) none (wQv Q) 7 [some (.inr (.inr 0))] [] M')) : XW kX11_forgetNet (d + 1) none (wQv Q) 0 [some (.inr (.inr 0))] [] M := by
  refine x_aload_n rfl rfl ?_
  refine x_getR rfl sh0 rfl ?_
  exact x_callv (args := [.inr (.inr 56)]) rfl rfl rfl k
theorem uX11_forgetNet_7 {d : Nat} {Q : yM → Prop} {M : yM}  (k : XCv d 20 [.inr (.inr 65)] M (fun M' => XW kX11_forgetNet (d + 1) none (wQv Q) 14 [some (.inr (.inr 0))] [] M')) : XW kX11_forgetNet (d + 1) none (wQv Q) 7 [some (.inr (.inr 0))] [] M := by
  refine x_aload_n rfl rfl ?_
  refine x_getR rfl sh0 rfl ?_
  exact x_callv (args := [.inr (.inr 65)]) rfl rfl rfl k
theorem uX11_forgetNet_14 {d : Nat} {Q : yM → Prop} {M : yM}  (k : XCv d 39 [.inr (.inr 69)] M (fun M' => XW kX11_forgetNet (d + 1) none (wQv Q) 21 [some (.inr (.inr 0))] [] M')) : XW kX11_forgetNet (d + 1) none (wQv Q) 14 [some (.inr (.inr 0))] [] M := by
  refine x_aload_n rfl rfl ?_
  refine x_getR rfl sh0 rfl ?_
  exact x_callv (args := [.inr (.inr 69)]) rfl rfl rfl k
theorem uX11_forgetNet_21 {d : Nat} {Q : yM → Prop} {M : yM}  (k : Q M) : XW kX11_forgetNet d none (wQv Q) 21 [some (.inr (.inr 0))] [] M := by
  exact x_return rfl k
theorem eX11_lowest {d : Nat} {Q : Int → yM → Prop} {M : yM} {x0 : Int}  (h : XW kX11_lowest d (some .int) (wQi Q) 0 [some (.inl x0)] [] M) : XCi d 116 [.inl x0] M Q :=
  XC.ofW (Mm := (yX11_lowest, cX11_lowest, 1, (some .int), 0, kX11_lowest)) rfl rfl rfl rfl h
theorem uX11_lowest_0 {d : Nat} {Q : Int → yM → Prop} {M : yM} {x0 : Int} (k : XCi d 179 [.inl ((yand x0 (-x0)) - 1)] M (fun v M' => XW kX11_lowest (d + 1) (some .int) (wQi Q) 9 [some (.inl x0)] [.inl v] M')) : XW kX11_lowest (d + 1) (some .int) (wQi Q) 0 [some (.inl x0)] [] M := by
  refine x_iload_n rfl rfl ?_
  refine x_iload_n rfl rfl ?_
  refine x_ineg rfl ?_
  refine x_iand rfl ?_
  refine x_iconst 1 rfl (by decide) ?_
  refine x_isub rfl ?_
  exact x_calli (args := [.inl ((yand x0 (-x0)) - 1)]) rfl rfl rfl k
theorem uX11_lowest_9 {d : Nat} {Q : Int → yM → Prop} {M : yM} {x0 : Int} {s0 : Int} (k : Q s0 M) : XW kX11_lowest d (some .int) (wQi Q) 9 [some (.inl x0)] [.inl s0] M := by
  exact x_ireturn rfl k
theorem eX11_hasEmpty {d : Nat} {Q : Int → yM → Prop} {M : yM} {x0 : Nat} {x1 : Int}  (h : XW kX11_hasEmpty d (some .boolean) (wQi Q) 0 [some (.inr (.inr x0)), some (.inl x1), none, none] [] M) : XCi d 117 [.inr (.inr x0), .inl x1] M Q :=
  XC.ofW (Mm := (yX11_hasEmpty, cX11_hasEmpty, 4, (some .boolean), 0, kX11_hasEmpty)) rfl rfl rfl rfl h
theorem uX11_hasEmpty_0 {d : Nat} {Q : Int → yM → Prop} {M : yM} {x0 : Nat} {x1 : Int} (k : XW kX11_hasEmpty d (some .boolean) (wQi Q) 2 [some (.inr (.inr x0)), some (.inl x1), some (.inl 0), none] [] M) : XW kX11_hasEmpty d (some .boolean) (wQi Q) 0 [some (.inr (.inr x0)), some (.inl x1), none, none] [] M := by
  refine x_iconst 0 rfl (by decide) ?_
  refine x_istore_n rfl (Nat.le_of_ble_eq_true rfl) rfl ?_
  exact k
theorem uX11_hasEmpty_2 {d : Nat} {Q : Int → yM → Prop} {M : yM} {x0 : Nat} {x1 : Int} {x2 : Int} {wx3 : Option yV} (h1 : -2147483648 ≤ x2 ∧ x2 < 2147483648) (h2 : -2147483648 ≤ x1 ∧ x1 < 2147483648) (kt : x2 ≥ x1 → XW kX11_hasEmpty d (some .boolean) (wQi Q) 41 [some (.inr (.inr x0)), some (.inl x1), some (.inl x2), wx3] [] M) (kf : x2 < x1 → XW kX11_hasEmpty d (some .boolean) (wQi Q) 7 [some (.inr (.inr x0)), some (.inl x1), some (.inl x2), wx3] [] M) : XW kX11_hasEmpty d (some .boolean) (wQi Q) 2 [some (.inr (.inr x0)), some (.inl x1), some (.inl x2), wx3] [] M := by
  refine x_iload_n rfl rfl ?_
  refine x_iload_n rfl rfl ?_
  exact x_icmpge rfl h1 h2 kt kf
theorem uX11_hasEmpty_7 {d : Nat} {Q : Int → yM → Prop} {M : yM} {x0 : Nat} {x1 : Int} {x2 : Int} {wx3 : Option yV} (k : XW kX11_hasEmpty d (some .boolean) (wQi Q) 11 [some (.inr (.inr x0)), some (.inl x1), some (.inl x2), some (.inl (x2 + 1))] [] M) : XW kX11_hasEmpty d (some .boolean) (wQi Q) 7 [some (.inr (.inr x0)), some (.inl x1), some (.inl x2), wx3] [] M := by
  refine x_iload_n rfl rfl ?_
  refine x_iconst 1 rfl (by decide) ?_
  refine x_iadd rfl ?_
  refine x_istore_n rfl (Nat.le_of_ble_eq_true rfl) rfl ?_
  exact k
theorem uX11_hasEmpty_11 {d : Nat} {Q : Int → yM → Prop} {M : yM} {x0 : Nat} {x1 : Int} {x2 : Int} {x3 : Int} (h1 : -2147483648 ≤ x3 ∧ x3 < 2147483648) (h2 : -2147483648 ≤ x1 ∧ x1 < 2147483648) (kt : x3 ≥ x1 → XW kX11_hasEmpty d (some .boolean) (wQi Q) 35 [some (.inr (.inr x0)), some (.inl x1), some (.inl x2), some (.inl x3)] [] M) (kf : x3 < x1 → XW kX11_hasEmpty d (some .boolean) (wQi Q) 16 [some (.inr (.inr x0)), some (.inl x1), some (.inl x2), some (.inl x3)] [] M) : XW kX11_hasEmpty d (some .boolean) (wQi Q) 11 [some (.inr (.inr x0)), some (.inl x1), some (.inl x2), some (.inl x3)] [] M := by
  refine x_iload_n rfl rfl ?_
  refine x_iload_n rfl rfl ?_
  exact x_icmpge rfl h1 h2 kt kf
theorem uX11_hasEmpty_16 {d : Nat} {Q : Int → yM → Prop} {M : yM} {x0 : Nat} {x1 : Int} {x2 : Int} {x3 : Int} (h1 : arrSh x0 64) (h2 : 0 ≤ ((8 * x2) + x3) ∧ ((8 * x2) + x3) < 64) (kt : (ld M x0 ((8 * x2) + x3)) ≠ 0 → XW kX11_hasEmpty d (some .boolean) (wQi Q) 29 [some (.inr (.inr x0)), some (.inl x1), some (.inl x2), some (.inl x3)] [] M) (kf : (ld M x0 ((8 * x2) + x3)) = 0 → XW kX11_hasEmpty d (some .boolean) (wQi Q) 27 [some (.inr (.inr x0)), some (.inl x1), some (.inl x2), some (.inl x3)] [] M) : XW kX11_hasEmpty d (some .boolean) (wQi Q) 16 [some (.inr (.inr x0)), some (.inl x1), some (.inl x2), some (.inl x3)] [] M := by
  refine x_aload_n rfl rfl ?_
  refine x_bipush 8 rfl (by decide) ?_
  refine x_iload_n rfl rfl ?_
  refine x_imul rfl ?_
  refine x_iload_n rfl rfl ?_
  refine x_iadd rfl ?_
  refine x_iaload rfl h1 h2 ?_
  exact x_ifne rfl (rng_ld _ _ _) kt kf
theorem uX11_hasEmpty_27 {d : Nat} {Q : Int → yM → Prop} {M : yM} {x0 : Nat} {x1 : Int} {x2 : Int} {x3 : Int} (k : Q 1 M) : XW kX11_hasEmpty d (some .boolean) (wQi Q) 27 [some (.inr (.inr x0)), some (.inl x1), some (.inl x2), some (.inl x3)] [] M := by
  refine x_iconst 1 rfl (by decide) ?_
  exact x_zreturn rfl (by decide) k
theorem uX11_hasEmpty_29 {d : Nat} {Q : Int → yM → Prop} {M : yM} {x0 : Nat} {x1 : Int} {x2 : Int} {x3 : Int} (k : XW kX11_hasEmpty d (some .boolean) (wQi Q) 11 [some (.inr (.inr x0)), some (.inl x1), some (.inl x2), some (.inl (x3 + 1))] [] M) : XW kX11_hasEmpty d (some .boolean) (wQi Q) 29 [some (.inr (.inr x0)), some (.inl x1), some (.inl x2), some (.inl x3)] [] M := by
  refine x_iinc 1 rfl (by decide) rfl rfl ?_
  exact x_goto rfl k
theorem uX11_hasEmpty_35 {d : Nat} {Q : Int → yM → Prop} {M : yM} {x0 : Nat} {x1 : Int} {x2 : Int} {x3 : Int} (k : XW kX11_hasEmpty d (some .boolean) (wQi Q) 2 [some (.inr (.inr x0)), some (.inl x1), some (.inl (x2 + 1)), some (.inl x3)] [] M) : XW kX11_hasEmpty d (some .boolean) (wQi Q) 35 [some (.inr (.inr x0)), some (.inl x1), some (.inl x2), some (.inl x3)] [] M := by
  refine x_iinc 1 rfl (by decide) rfl rfl ?_
  exact x_goto rfl k
theorem uX11_hasEmpty_41 {d : Nat} {Q : Int → yM → Prop} {M : yM} {x0 : Nat} {x1 : Int} {x2 : Int} {wx3 : Option yV} (k : Q 0 M) : XW kX11_hasEmpty d (some .boolean) (wQi Q) 41 [some (.inr (.inr x0)), some (.inl x1), some (.inl x2), wx3] [] M := by
  refine x_iconst 0 rfl (by decide) ?_
  exact x_zreturn rfl (by decide) k
theorem eX11_pairBit {d : Nat} {Q : Int → yM → Prop} {M : yM} {x0 : Int} {x1 : Int}  (h : XW kX11_pairBit d (some .long) (wQl Q) 0 [some (.inl x0), some (.inl x1)] [] M) : XCl d 118 [.inl x0, .inl x1] M Q :=
  XC.ofW (Mm := (yX11_pairBit, cX11_pairBit, 2, (some .long), 0, kX11_pairBit)) rfl rfl rfl rfl h
theorem uX11_pairBit_0 {d : Nat} {Q : Int → yM → Prop} {M : yM} {x0 : Int} {x1 : Int} (h1 : -2147483648 ≤ x0 ∧ x0 < 2147483648) (h2 : -2147483648 ≤ x1 ∧ x1 < 2147483648) (kt : x0 ≥ x1 → XW kX11_pairBit d (some .long) (wQl Q) 15 [some (.inl x0), some (.inl x1)] [.inr (.inl 1)] M) (kf : x0 < x1 → XW kX11_pairBit d (some .long) (wQl Q) 6 [some (.inl x0), some (.inl x1)] [.inr (.inl 1)] M) : XW kX11_pairBit d (some .long) (wQl Q) 0 [some (.inl x0), some (.inl x1)] [] M := by
  refine x_lconst 1 rfl (by decide) ?_
  refine x_iload_n rfl rfl ?_
  refine x_iload_n rfl rfl ?_
  exact x_icmpge rfl h1 h2 kt kf
theorem uX11_pairBit_6 {d : Nat} {Q : Int → yM → Prop} {M : yM} {x0 : Int} {x1 : Int} {s0 : Int} (k : XW kX11_pairBit d (some .long) (wQl Q) 21 [some (.inl x0), some (.inl x1)] [.inl ((8 * x0) + x1), .inr (.inl s0)] M) : XW kX11_pairBit d (some .long) (wQl Q) 6 [some (.inl x0), some (.inl x1)] [.inr (.inl s0)] M := by
  refine x_bipush 8 rfl (by decide) ?_
  refine x_iload_n rfl rfl ?_
  refine x_imul rfl ?_
  refine x_iload_n rfl rfl ?_
  refine x_iadd rfl ?_
  exact x_goto rfl k
theorem uX11_pairBit_15 {d : Nat} {Q : Int → yM → Prop} {M : yM} {x0 : Int} {x1 : Int} {s0 : Int} (k : XW kX11_pairBit d (some .long) (wQl Q) 21 [some (.inl x0), some (.inl x1)] [.inl ((8 * x1) + x0), .inr (.inl s0)] M) : XW kX11_pairBit d (some .long) (wQl Q) 15 [some (.inl x0), some (.inl x1)] [.inr (.inl s0)] M := by
  refine x_bipush 8 rfl (by decide) ?_
  refine x_iload_n rfl rfl ?_
  refine x_imul rfl ?_
  refine x_iload_n rfl rfl ?_
  refine x_iadd rfl ?_
  exact k
theorem uX11_pairBit_21 {d : Nat} {Q : Int → yM → Prop} {M : yM} {x0 : Int} {x1 : Int} {s0 : Int} {s1 : Int} (k : Q (zshl s1 s0) M) : XW kX11_pairBit d (some .long) (wQl Q) 21 [some (.inl x0), some (.inl x1)] [.inl s0, .inr (.inl s1)] M := by
  refine x_lshl rfl ?_
  exact x_lreturn rfl k
theorem eX12_in {d : Nat} {Q : Int → yM → Prop} {M : yM} {x0 : Int} {x1 : Int} {x2 : Int}  (h : XW kX12_in d (some .boolean) (wQi Q) 0 [some (.inl x0), some (.inl x1), some (.inl x2)] [] M) : XCi d 120 [.inl x0, .inl x1, .inl x2] M Q :=
  XC.ofW (Mm := (yX12_in, cX12_in, 3, (some .boolean), 0, kX12_in)) rfl rfl rfl rfl h
theorem uX12_in_0 {d : Nat} {Q : Int → yM → Prop} {M : yM} {x0 : Int} {x1 : Int} {x2 : Int} (h1 : -2147483648 ≤ x0 ∧ x0 < 2147483648) (h2 : -2147483648 ≤ x1 ∧ x1 < 2147483648) (kt : x0 < x1 → XW kX12_in d (some .boolean) (wQi Q) 14 [some (.inl x0), some (.inl x1), some (.inl x2)] [] M) (kf : x0 ≥ x1 → XW kX12_in d (some .boolean) (wQi Q) 5 [some (.inl x0), some (.inl x1), some (.inl x2)] [] M) : XW kX12_in d (some .boolean) (wQi Q) 0 [some (.inl x0), some (.inl x1), some (.inl x2)] [] M := by
  refine x_iload_n rfl rfl ?_
  refine x_iload_n rfl rfl ?_
  exact x_icmplt rfl h1 h2 kt kf
theorem uX12_in_5 {d : Nat} {Q : Int → yM → Prop} {M : yM} {x0 : Int} {x1 : Int} {x2 : Int} (h1 : -2147483648 ≤ x0 ∧ x0 < 2147483648) (h2 : -2147483648 ≤ x2 ∧ x2 < 2147483648) (kt : x0 > x2 → XW kX12_in d (some .boolean) (wQi Q) 14 [some (.inl x0), some (.inl x1), some (.inl x2)] [] M) (kf : x0 ≤ x2 → XW kX12_in d (some .boolean) (wQi Q) 10 [some (.inl x0), some (.inl x1), some (.inl x2)] [] M) : XW kX12_in d (some .boolean) (wQi Q) 5 [some (.inl x0), some (.inl x1), some (.inl x2)] [] M := by
  refine x_iload_n rfl rfl ?_
  refine x_iload_n rfl rfl ?_
  exact x_icmpgt rfl h1 h2 kt kf
theorem uX12_in_10 {d : Nat} {Q : Int → yM → Prop} {M : yM} {x0 : Int} {x1 : Int} {x2 : Int} (k : XW kX12_in d (some .boolean) (wQi Q) 15 [some (.inl x0), some (.inl x1), some (.inl x2)] [.inl 1] M) : XW kX12_in d (some .boolean) (wQi Q) 10 [some (.inl x0), some (.inl x1), some (.inl x2)] [] M := by
  refine x_iconst 1 rfl (by decide) ?_
  exact x_goto rfl k
theorem uX12_in_14 {d : Nat} {Q : Int → yM → Prop} {M : yM} {x0 : Int} {x1 : Int} {x2 : Int} (k : XW kX12_in d (some .boolean) (wQi Q) 15 [some (.inl x0), some (.inl x1), some (.inl x2)] [.inl 0] M) : XW kX12_in d (some .boolean) (wQi Q) 14 [some (.inl x0), some (.inl x1), some (.inl x2)] [] M := by
  refine x_iconst 0 rfl (by decide) ?_
  exact k
theorem uX12_in_15 {d : Nat} {Q : Int → yM → Prop} {M : yM} {x0 : Int} {x1 : Int} {x2 : Int} {s0 : Int} (h1 : s0 = 0 ∨ s0 = 1) (k : Q s0 M) : XW kX12_in d (some .boolean) (wQi Q) 15 [some (.inl x0), some (.inl x1), some (.inl x2)] [.inl s0] M := by
  exact x_zreturn rfl h1 k
theorem eX12_all {d : Nat} {Q : Int → yM → Prop} {M : yM}   (h : XW kX12_all d (some .int) (wQi Q) 0 [some (.inr (.inr 92))] [] M) : XCi d 121 [.inr (.inr 92)] M Q :=
  XC.ofW (Mm := (yX12_all, cX12_all, 1, (some .int), 13, kX12_all)) rfl (rcv_ok sh92) rfl rfl h
theorem uX12_all_0 {d : Nat} {Q : Int → yM → Prop} {M : yM}  (k : Q ((yshl 1 (ld M 92 2)) - 1) M) : XW kX12_all d (some .int) (wQi Q) 0 [some (.inr (.inr 92))] [] M := by
  refine x_iconst 1 rfl (by decide) ?_
  refine x_aload_n rfl rfl ?_
  refine x_getI rfl sh92 rfl ?_
  refine x_ishl rfl ?_
  refine x_iconst 1 rfl (by decide) ?_
  refine x_isub rfl ?_
  exact x_ireturn rfl k
theorem eX12_isKind {d : Nat} {Q : Int → yM → Prop} {M : yM} {x1 : Int}  (h : XW kX12_isKind d (some .boolean) (wQi Q) 0 [some (.inr (.inr 92)), some (.inl x1)] [] M) : XCi d 122 [.inr (.inr 92), .inl x1] M Q :=
  XC.ofW (Mm := (yX12_isKind, cX12_isKind, 2, (some .boolean), 13, kX12_isKind)) rfl (rcv_ok sh92) rfl rfl h
theorem uX12_isKind_0 {d : Nat} {Q : Int → yM → Prop} {M : yM} {x1 : Int} (k : XCi d 120 [.inl x1, .inl 1, .inl ((ld M 92 2) - 1)] M (fun v M' => XW kX12_isKind (d + 1) (some .boolean) (wQi Q) 11 [some (.inr (.inr 92)), some (.inl x1)] [.inl v] M')) : XW kX12_isKind (d + 1) (some .boolean) (wQi Q) 0 [some (.inr (.inr 92)), some (.inl x1)] [] M := by
  refine x_iload_n rfl rfl ?_
  refine x_iconst 1 rfl (by decide) ?_
  refine x_aload_n rfl rfl ?_
  refine x_getI rfl sh92 rfl ?_
  refine x_iconst 1 rfl (by decide) ?_
  refine x_isub rfl ?_
  exact x_calli (args := [.inl x1, .inl 1, .inl ((ld M 92 2) - 1)]) rfl rfl rfl k
theorem uX12_isKind_11 {d : Nat} {Q : Int → yM → Prop} {M : yM} {x1 : Int} {s0 : Int} (h1 : s0 = 0 ∨ s0 = 1) (k : Q s0 M) : XW kX12_isKind d (some .boolean) (wQi Q) 11 [some (.inr (.inr 92)), some (.inl x1)] [.inl s0] M := by
  exact x_zreturn rfl h1 k
theorem eX12_isSet {d : Nat} {Q : Int → yM → Prop} {M : yM} {x1 : Int}  (h : XW kX12_isSet d (some .boolean) (wQi Q) 0 [some (.inr (.inr 92)), some (.inl x1)] [] M) : XCi d 123 [.inr (.inr 92), .inl x1] M Q :=
  XC.ofW (Mm := (yX12_isSet, cX12_isSet, 2, (some .boolean), 13, kX12_isSet)) rfl (rcv_ok sh92) rfl rfl h
theorem uX12_isSet_0 {d : Nat} {Q : Int → yM → Prop} {M : yM} {x1 : Int} (k : XCi d 121 [.inr (.inr 92)] M (fun v M' => XW kX12_isSet (d + 1) (some .boolean) (wQi Q) 6 [some (.inr (.inr 92)), some (.inl x1)] [.inl v, .inl 0, .inl x1] M')) : XW kX12_isSet (d + 1) (some .boolean) (wQi Q) 0 [some (.inr (.inr 92)), some (.inl x1)] [] M := by
  refine x_iload_n rfl rfl ?_
  refine x_iconst 0 rfl (by decide) ?_
  refine x_aload_n rfl rfl ?_
  exact x_calli (args := [.inr (.inr 92)]) rfl rfl rfl k
theorem uX12_isSet_6 {d : Nat} {Q : Int → yM → Prop} {M : yM} {x1 : Int} {s0 : Int} {s1 : Int} {s2 : Int} (k : XCi d 120 [.inl s2, .inl s1, .inl s0] M (fun v M' => XW kX12_isSet (d + 1) (some .boolean) (wQi Q) 9 [some (.inr (.inr 92)), some (.inl x1)] [.inl v] M')) : XW kX12_isSet (d + 1) (some .boolean) (wQi Q) 6 [some (.inr (.inr 92)), some (.inl x1)] [.inl s0, .inl s1, .inl s2] M := by
  exact x_calli (args := [.inl s2, .inl s1, .inl s0]) rfl rfl rfl k
theorem uX12_isSet_9 {d : Nat} {Q : Int → yM → Prop} {M : yM} {x1 : Int} {s0 : Int} (h1 : s0 = 0 ∨ s0 = 1) (k : Q s0 M) : XW kX12_isSet d (some .boolean) (wQi Q) 9 [some (.inr (.inr 92)), some (.inl x1)] [.inl s0] M := by
  exact x_zreturn rfl h1 k
theorem eX12_isPoint {d : Nat} {Q : Int → yM → Prop} {M : yM} {x1 : Int}  (h : XW kX12_isPoint d (some .boolean) (wQi Q) 0 [some (.inr (.inr 92)), some (.inl x1)] [] M) : XCi d 124 [.inr (.inr 92), .inl x1] M Q :=
  XC.ofW (Mm := (yX12_isPoint, cX12_isPoint, 2, (some .boolean), 13, kX12_isPoint)) rfl (rcv_ok sh92) rfl rfl h
theorem uX12_isPoint_0 {d : Nat} {Q : Int → yM → Prop} {M : yM} {x1 : Int} (k : XCi d 120 [.inl x1, .inl 0, .inl ((ld M 92 11) - 1)] M (fun v M' => XW kX12_isPoint (d + 1) (some .boolean) (wQi Q) 11 [some (.inr (.inr 92)), some (.inl x1)] [.inl v] M')) : XW kX12_isPoint (d + 1) (some .boolean) (wQi Q) 0 [some (.inr (.inr 92)), some (.inl x1)] [] M := by
  refine x_iload_n rfl rfl ?_
  refine x_iconst 0 rfl (by decide) ?_
  refine x_aload_n rfl rfl ?_
  refine x_getI rfl sh92 rfl ?_
  refine x_iconst 1 rfl (by decide) ?_
  refine x_isub rfl ?_
  exact x_calli (args := [.inl x1, .inl 0, .inl ((ld M 92 11) - 1)]) rfl rfl rfl k
theorem uX12_isPoint_11 {d : Nat} {Q : Int → yM → Prop} {M : yM} {x1 : Int} {s0 : Int} (h1 : s0 = 0 ∨ s0 = 1) (k : Q s0 M) : XW kX12_isPoint d (some .boolean) (wQi Q) 11 [some (.inr (.inr 92)), some (.inl x1)] [.inl s0] M := by
  exact x_zreturn rfl h1 k
theorem eX12_mayBe {d : Nat} {Q : Int → yM → Prop} {M : yM} {x1 : Int} {x2 : Int} {x3 : Int}  (h : XW kX12_mayBe d (some .boolean) (wQi Q) 0 [some (.inr (.inr 92)), some (.inl x1), some (.inl x2), some (.inl x3)] [] M) : XCi d 125 [.inr (.inr 92), .inl x1, .inl x2, .inl x3] M Q :=
  XC.ofW (Mm := (yX12_mayBe, cX12_mayBe, 4, (some .boolean), 13, kX12_mayBe)) rfl (rcv_ok sh92) rfl rfl h
theorem uX12_mayBe_0 {d : Nat} {Q : Int → yM → Prop} {M : yM} {x1 : Int} {x2 : Int} {x3 : Int} (h1 : 0 ≤ ((8 * x1) + x2) ∧ ((8 * x1) + x2) < 64) (kt : (yand (yshr (ld M 94 ((8 * x1) + x2)) x3) 1) ≠ 1 → XW kX12_mayBe d (some .boolean) (wQi Q) 23 [some (.inr (.inr 92)), some (.inl x1), some (.inl x2), some (.inl x3)] [] M) (kf : (yand (yshr (ld M 94 ((8 * x1) + x2)) x3) 1) = 1 → XW kX12_mayBe d (some .boolean) (wQi Q) 19 [some (.inr (.inr 92)), some (.inl x1), some (.inl x2), some (.inl x3)] [] M) : XW kX12_mayBe d (some .boolean) (wQi Q) 0 [some (.inr (.inr 92)), some (.inl x1), some (.inl x2), some (.inl x3)] [] M := by
  refine x_aload_n rfl rfl ?_
  refine x_getR rfl sh92 rfl ?_
  refine x_bipush 8 rfl (by decide) ?_
  refine x_iload_n rfl rfl ?_
  refine x_imul rfl ?_
  refine x_iload_n rfl rfl ?_
  refine x_iadd rfl ?_
  refine x_iaload rfl ⟨sh94, Nat.le_of_ble_eq_true rfl⟩ h1 ?_
  refine x_iload_n rfl rfl ?_
  refine x_ishr rfl ?_
  refine x_iconst 1 rfl (by decide) ?_
  refine x_iand rfl ?_
  refine x_iconst 1 rfl (by decide) ?_
  exact x_icmpne rfl (rng_yand _ _) (by decide) kt kf
theorem uX12_mayBe_19 {d : Nat} {Q : Int → yM → Prop} {M : yM} {x1 : Int} {x2 : Int} {x3 : Int} (k : XW kX12_mayBe d (some .boolean) (wQi Q) 24 [some (.inr (.inr 92)), some (.inl x1), some (.inl x2), some (.inl x3)] [.inl 1] M) : XW kX12_mayBe d (some .boolean) (wQi Q) 19 [some (.inr (.inr 92)), some (.inl x1), some (.inl x2), some (.inl x3)] [] M := by
  refine x_iconst 1 rfl (by decide) ?_
  exact x_goto rfl k
theorem uX12_mayBe_23 {d : Nat} {Q : Int → yM → Prop} {M : yM} {x1 : Int} {x2 : Int} {x3 : Int} (k : XW kX12_mayBe d (some .boolean) (wQi Q) 24 [some (.inr (.inr 92)), some (.inl x1), some (.inl x2), some (.inl x3)] [.inl 0] M) : XW kX12_mayBe d (some .boolean) (wQi Q) 23 [some (.inr (.inr 92)), some (.inl x1), some (.inl x2), some (.inl x3)] [] M := by
  refine x_iconst 0 rfl (by decide) ?_
  exact k
theorem uX12_mayBe_24 {d : Nat} {Q : Int → yM → Prop} {M : yM} {x1 : Int} {x2 : Int} {x3 : Int} {s0 : Int} (h1 : s0 = 0 ∨ s0 = 1) (k : Q s0 M) : XW kX12_mayBe d (some .boolean) (wQi Q) 24 [some (.inr (.inr 92)), some (.inl x1), some (.inl x2), some (.inl x3)] [.inl s0] M := by
  exact x_zreturn rfl h1 k
theorem eX12_opens {d : Nat} {Q : yM → Prop} {M : yM}   (h : XW kX12_opens d none (wQv Q) 0 [some (.inr (.inr 92)), none, none, none] [] M) : XCv d 126 [.inr (.inr 92)] M Q :=
  XC.ofW (Mm := (yX12_opens, cX12_opens, 4, none, 13, kX12_opens)) rfl (rcv_ok sh92) rfl rfl h
theorem uX12_opens_0 {d : Nat} {Q : yM → Prop} {M : yM}  (k : XW kX12_opens d none (wQv Q) 2 [some (.inr (.inr 92)), some (.inl 0), none, none] [] M) : XW kX12_opens d none (wQv Q) 0 [some (.inr (.inr 92)), none, none, none] [] M := by
  refine x_iconst 0 rfl (by decide) ?_
  refine x_istore_n rfl (Nat.le_of_ble_eq_true rfl) rfl ?_
  exact k
theorem uX12_opens_2 {d : Nat} {Q : yM → Prop} {M : yM} {x1 : Int} {wx2 : Option yV} {wx3 : Option yV} (h1 : -2147483648 ≤ x1 ∧ x1 < 2147483648) (kt : x1 ≥ (ld M 92 2) → XW kX12_opens d none (wQv Q) 88 [some (.inr (.inr 92)), some (.inl x1), wx2, wx3] [] M) (kf : x1 < (ld M 92 2) → XW kX12_opens d none (wQv Q) 10 [some (.inr (.inr 92)), some (.inl x1), wx2, wx3] [] M) : XW kX12_opens d none (wQv Q) 2 [some (.inr (.inr 92)), some (.inl x1), wx2, wx3] [] M := by
  refine x_iload_n rfl rfl ?_
  refine x_aload_n rfl rfl ?_
  refine x_getI rfl sh92 rfl ?_
  exact x_icmpge rfl h1 (rng_ld _ _ _) kt kf
theorem uX12_opens_10 {d : Nat} {Q : yM → Prop} {M : yM} {x1 : Int} {wx2 : Option yV} {wx3 : Option yV} (k : XW kX12_opens d none (wQv Q) 12 [some (.inr (.inr 92)), some (.inl x1), some (.inl 0), wx3] [] M) : XW kX12_opens d none (wQv Q) 10 [some (.inr (.inr 92)), some (.inl x1), wx2, wx3] [] M := by
  refine x_iconst 0 rfl (by decide) ?_
  refine x_istore_n rfl (Nat.le_of_ble_eq_true rfl) rfl ?_
  exact k
theorem uX12_opens_12 {d : Nat} {Q : yM → Prop} {M : yM} {x1 : Int} {x2 : Int} {wx3 : Option yV} (h1 : -2147483648 ≤ x2 ∧ x2 < 2147483648) (kt : x2 ≥ (ld M 92 2) → XW kX12_opens d none (wQv Q) 82 [some (.inr (.inr 92)), some (.inl x1), some (.inl x2), wx3] [] M) (kf : x2 < (ld M 92 2) → XW kX12_opens d none (wQv Q) 20 [some (.inr (.inr 92)), some (.inl x1), some (.inl x2), wx3] [] M) : XW kX12_opens d none (wQv Q) 12 [some (.inr (.inr 92)), some (.inl x1), some (.inl x2), wx3] [] M := by
  refine x_iload_n rfl rfl ?_
  refine x_aload_n rfl rfl ?_
  refine x_getI rfl sh92 rfl ?_
  exact x_icmpge rfl h1 (rng_ld _ _ _) kt kf
theorem uX12_opens_20 {d : Nat} {Q : yM → Prop} {M : yM} {x1 : Int} {x2 : Int} {wx3 : Option yV} (h1 : -2147483648 ≤ x1 ∧ x1 < 2147483648) (kt : x1 ≠ 0 → XW kX12_opens d none (wQv Q) 30 [some (.inr (.inr 92)), some (.inl x1), some (.inl x2), wx3] [] M) (kf : x1 = 0 → XW kX12_opens d none (wQv Q) 24 [some (.inr (.inr 92)), some (.inl x1), some (.inl x2), wx3] [] M) : XW kX12_opens d none (wQv Q) 20 [some (.inr (.inr 92)), some (.inl x1), some (.inl x2), wx3] [] M := by
  refine x_iload_n rfl rfl ?_
  exact x_ifne rfl h1 kt kf
theorem uX12_opens_24 {d : Nat} {Q : yM → Prop} {M : yM} {x1 : Int} {x2 : Int} {wx3 : Option yV} (k : XW kX12_opens d none (wQv Q) 47 [some (.inr (.inr 92)), some (.inl x1), some (.inl x2), wx3] [.inl (yshl 1 x2)] M) : XW kX12_opens d none (wQv Q) 24 [some (.inr (.inr 92)), some (.inl x1), some (.inl x2), wx3] [] M := by
  refine x_iconst 1 rfl (by decide) ?_
  refine x_iload_n rfl rfl ?_
  refine x_ishl rfl ?_
  exact x_goto rfl k
theorem uX12_opens_30 {d : Nat} {Q : yM → Prop} {M : yM} {x1 : Int} {x2 : Int} {wx3 : Option yV} (h1 : -2147483648 ≤ x2 ∧ x2 < 2147483648) (kt : x2 ≠ 0 → XW kX12_opens d none (wQv Q) 40 [some (.inr (.inr 92)), some (.inl x1), some (.inl x2), wx3] [] M) (kf : x2 = 0 → XW kX12_opens d none (wQv Q) 34 [some (.inr (.inr 92)), some (.inl x1), some (.inl x2), wx3] [] M) : XW kX12_opens d none (wQv Q) 30 [some (.inr (.inr 92)), some (.inl x1), some (.inl x2), wx3] [] M := by
  refine x_iload_n rfl rfl ?_
  exact x_ifne rfl h1 kt kf
theorem uX12_opens_34 {d : Nat} {Q : yM → Prop} {M : yM} {x1 : Int} {x2 : Int} {wx3 : Option yV} (k : XW kX12_opens d none (wQv Q) 47 [some (.inr (.inr 92)), some (.inl x1), some (.inl x2), wx3] [.inl (yshl 1 x1)] M) : XW kX12_opens d none (wQv Q) 34 [some (.inr (.inr 92)), some (.inl x1), some (.inl x2), wx3] [] M := by
  refine x_iconst 1 rfl (by decide) ?_
  refine x_iload_n rfl rfl ?_
  refine x_ishl rfl ?_
  exact x_goto rfl k
theorem uX12_opens_40 {d : Nat} {Q : yM → Prop} {M : yM} {x1 : Int} {x2 : Int} {wx3 : Option yV} (k : XCi d 121 [.inr (.inr 92)] M (fun v M' => XW kX12_opens (d + 1) none (wQv Q) 44 [some (.inr (.inr 92)), some (.inl x1), some (.inl x2), wx3] [.inl v] M')) : XW kX12_opens (d + 1) none (wQv Q) 40 [some (.inr (.inr 92)), some (.inl x1), some (.inl x2), wx3] [] M := by
  refine x_aload_n rfl rfl ?_
  exact x_calli (args := [.inr (.inr 92)]) rfl rfl rfl k
theorem uX12_opens_44 {d : Nat} {Q : yM → Prop} {M : yM} {x1 : Int} {x2 : Int} {wx3 : Option yV} {s0 : Int} (k : XW kX12_opens d none (wQv Q) 47 [some (.inr (.inr 92)), some (.inl x1), some (.inl x2), wx3] [.inl (yand s0 (-2))] M) : XW kX12_opens d none (wQv Q) 44 [some (.inr (.inr 92)), some (.inl x1), some (.inl x2), wx3] [.inl s0] M := by
  refine x_bipush (-2) rfl (by decide) ?_
  refine x_iand rfl ?_
  exact k
theorem uX12_opens_47 {d : Nat} {Q : yM → Prop} {M : yM} {x1 : Int} {x2 : Int} {wx3 : Option yV} {s0 : Int} (h1 : 0 ≤ x1 ∧ x1 < 8) (h2 : -2147483648 ≤ x2 ∧ x2 < 2147483648) (kt : x2 ≠ (ld M 93 x1) → XW kX12_opens d none (wQv Q) 73 [some (.inr (.inr 92)), some (.inl x1), some (.inl x2), some (.inl s0)] [.inl s0, .inl ((8 * x1) + x2), .inr (.inr 94)] M) (kf : x2 = (ld M 93 x1) → XW kX12_opens d none (wQv Q) 69 [some (.inr (.inr 92)), some (.inl x1), some (.inl x2), some (.inl s0)] [.inl s0, .inl ((8 * x1) + x2), .inr (.inr 94)] M) : XW kX12_opens d none (wQv Q) 47 [some (.inr (.inr 92)), some (.inl x1), some (.inl x2), wx3] [.inl s0] M := by
  refine x_istore_n rfl (Nat.le_of_ble_eq_true rfl) rfl ?_
  refine x_aload_n rfl rfl ?_
  refine x_getR rfl sh92 rfl ?_
  refine x_bipush 8 rfl (by decide) ?_
  refine x_iload_n rfl rfl ?_
  refine x_imul rfl ?_
  refine x_iload_n rfl rfl ?_
  refine x_iadd rfl ?_
  refine x_iload_n rfl rfl ?_
  refine x_iload_n rfl rfl ?_
  refine x_aload_n rfl rfl ?_
  refine x_getR rfl sh92 rfl ?_
  refine x_iload_n rfl rfl ?_
  refine x_iaload rfl ⟨sh93, Nat.le_of_ble_eq_true rfl⟩ h1 ?_
  exact x_icmpne rfl h2 (rng_ld _ _ _) kt kf
theorem uX12_opens_69 {d : Nat} {Q : yM → Prop} {M : yM} {x1 : Int} {x2 : Int} {x3 : Int} {s0 : Int} {s1 : Int} (k : XW kX12_opens d none (wQv Q) 74 [some (.inr (.inr 92)), some (.inl x1), some (.inl x2), some (.inl x3)] [.inl 1, .inl s0, .inl s1, .inr (.inr 94)] M) : XW kX12_opens d none (wQv Q) 69 [some (.inr (.inr 92)), some (.inl x1), some (.inl x2), some (.inl x3)] [.inl s0, .inl s1, .inr (.inr 94)] M := by
  refine x_iconst 1 rfl (by decide) ?_
  exact x_goto rfl k
theorem uX12_opens_73 {d : Nat} {Q : yM → Prop} {M : yM} {x1 : Int} {x2 : Int} {x3 : Int} {s0 : Int} {s1 : Int} (k : XW kX12_opens d none (wQv Q) 74 [some (.inr (.inr 92)), some (.inl x1), some (.inl x2), some (.inl x3)] [.inl 0, .inl s0, .inl s1, .inr (.inr 94)] M) : XW kX12_opens d none (wQv Q) 73 [some (.inr (.inr 92)), some (.inl x1), some (.inl x2), some (.inl x3)] [.inl s0, .inl s1, .inr (.inr 94)] M := by
  refine x_iconst 0 rfl (by decide) ?_
  exact k
theorem uX12_opens_74 {d : Nat} {Q : yM → Prop} {M : yM} {x1 : Int} {x2 : Int} {x3 : Int} {s0 : Int} {s1 : Int} {s2 : Int} (h1 : 0 ≤ s2 ∧ s2 < 64) (k : ∀ M', M' = (put M 94 s2 (yor s1 s0)) → XW kX12_opens d none (wQv Q) 76 [some (.inr (.inr 92)), some (.inl x1), some (.inl x2), some (.inl x3)] [] M') : XW kX12_opens d none (wQv Q) 74 [some (.inr (.inr 92)), some (.inl x1), some (.inl x2), some (.inl x3)] [.inl s0, .inl s1, .inl s2, .inr (.inr 94)] M := by
  refine x_ior rfl ?_
  refine x_iastore rfl ⟨sh94, Nat.le_of_ble_eq_true rfl⟩ h1  ?_
  exact k _ rfl
theorem uX12_opens_76 {d : Nat} {Q : yM → Prop} {M : yM} {x1 : Int} {x2 : Int} {x3 : Int} (k : XW kX12_opens d none (wQv Q) 12 [some (.inr (.inr 92)), some (.inl x1), some (.inl (x2 + 1)), some (.inl x3)] [] M) : XW kX12_opens d none (wQv Q) 76 [some (.inr (.inr 92)), some (.inl x1), some (.inl x2), some (.inl x3)] [] M := by
  refine x_iinc 1 rfl (by decide) rfl rfl ?_
  exact x_goto rfl k
theorem uX12_opens_82 {d : Nat} {Q : yM → Prop} {M : yM} {x1 : Int} {x2 : Int} {wx3 : Option yV} (k : XW kX12_opens d none (wQv Q) 2 [some (.inr (.inr 92)), some (.inl (x1 + 1)), some (.inl x2), wx3] [] M) : XW kX12_opens d none (wQv Q) 82 [some (.inr (.inr 92)), some (.inl x1), some (.inl x2), wx3] [] M := by
  refine x_iinc 1 rfl (by decide) rfl rfl ?_
  exact x_goto rfl k
theorem uX12_opens_88 {d : Nat} {Q : yM → Prop} {M : yM} {x1 : Int} {wx2 : Option yV} {wx3 : Option yV} (k : Q M) : XW kX12_opens d none (wQv Q) 88 [some (.inr (.inr 92)), some (.inl x1), wx2, wx3] [] M := by
  exact x_return rfl k
theorem eX12_frees {d : Nat} {Q : yM → Prop} {M : yM}   (h : XW kX12_frees d none (wQv Q) 0 [some (.inr (.inr 92)), none, none] [] M) : XCv d 127 [.inr (.inr 92)] M Q :=
  XC.ofW (Mm := (yX12_frees, cX12_frees, 3, none, 13, kX12_frees)) rfl (rcv_ok sh92) rfl rfl h
theorem uX12_frees_0 {d : Nat} {Q : yM → Prop} {M : yM}  (k : XW kX12_frees d none (wQv Q) 2 [some (.inr (.inr 92)), some (.inl 0), none] [] M) : XW kX12_frees d none (wQv Q) 0 [some (.inr (.inr 92)), none, none] [] M := by
  refine x_iconst 0 rfl (by decide) ?_
  refine x_istore_n rfl (Nat.le_of_ble_eq_true rfl) rfl ?_
  exact k
theorem uX12_frees_2 {d : Nat} {Q : yM → Prop} {M : yM} {x1 : Int} {wx2 : Option yV} (h1 : -2147483648 ≤ x1 ∧ x1 < 2147483648) (kt : x1 ≥ 8 → XW kX12_frees d none (wQv Q) 52 [some (.inr (.inr 92)), some (.inl x1), wx2] [] M) (kf : x1 < 8 → XW kX12_frees d none (wQv Q) 8 [some (.inr (.inr 92)), some (.inl x1), wx2] [] M) : XW kX12_frees d none (wQv Q) 2 [some (.inr (.inr 92)), some (.inl x1), wx2] [] M := by
  refine x_iload_n rfl rfl ?_
  refine x_bipush 8 rfl (by decide) ?_
  exact x_icmpge rfl h1 (by decide) kt kf
theorem uX12_frees_8 {d : Nat} {Q : yM → Prop} {M : yM} {x1 : Int} {wx2 : Option yV} (k : XW kX12_frees d none (wQv Q) 10 [some (.inr (.inr 92)), some (.inl x1), some (.inl 0)] [] M) : XW kX12_frees d none (wQv Q) 8 [some (.inr (.inr 92)), some (.inl x1), wx2] [] M := by
  refine x_iconst 0 rfl (by decide) ?_
  refine x_istore_n rfl (Nat.le_of_ble_eq_true rfl) rfl ?_
  exact k
theorem uX12_frees_10 {d : Nat} {Q : yM → Prop} {M : yM} {x1 : Int} {x2 : Int} (h1 : -2147483648 ≤ x2 ∧ x2 < 2147483648) (kt : x2 ≥ 8 → XW kX12_frees d none (wQv Q) 46 [some (.inr (.inr 92)), some (.inl x1), some (.inl x2)] [] M) (kf : x2 < 8 → XW kX12_frees d none (wQv Q) 16 [some (.inr (.inr 92)), some (.inl x1), some (.inl x2)] [] M) : XW kX12_frees d none (wQv Q) 10 [some (.inr (.inr 92)), some (.inl x1), some (.inl x2)] [] M := by
  refine x_iload_n rfl rfl ?_
  refine x_bipush 8 rfl (by decide) ?_
  exact x_icmpge rfl h1 (by decide) kt kf
theorem uX12_frees_16 {d : Nat} {Q : yM → Prop} {M : yM} {x1 : Int} {x2 : Int} (h1 : -2147483648 ≤ x1 ∧ x1 < 2147483648) (h2 : -2147483648 ≤ x2 ∧ x2 < 2147483648) (kt : x1 ≠ x2 → XW kX12_frees d none (wQv Q) 35 [some (.inr (.inr 92)), some (.inl x1), some (.inl x2)] [.inl ((8 * x1) + x2), .inr (.inr 100)] M) (kf : x1 = x2 → XW kX12_frees d none (wQv Q) 31 [some (.inr (.inr 92)), some (.inl x1), some (.inl x2)] [.inl ((8 * x1) + x2), .inr (.inr 100)] M) : XW kX12_frees d none (wQv Q) 16 [some (.inr (.inr 92)), some (.inl x1), some (.inl x2)] [] M := by
  refine x_aload_n rfl rfl ?_
  refine x_getR rfl sh92 rfl ?_
  refine x_bipush 8 rfl (by decide) ?_
  refine x_iload_n rfl rfl ?_
  refine x_imul rfl ?_
  refine x_iload_n rfl rfl ?_
  refine x_iadd rfl ?_
  refine x_iload_n rfl rfl ?_
  refine x_iload_n rfl rfl ?_
  exact x_icmpne rfl h1 h2 kt kf
theorem uX12_frees_31 {d : Nat} {Q : yM → Prop} {M : yM} {x1 : Int} {x2 : Int} {s0 : Int} (k : XW kX12_frees d none (wQv Q) 39 [some (.inr (.inr 92)), some (.inl x1), some (.inl x2)] [.inl 1, .inl s0, .inr (.inr 100)] M) : XW kX12_frees d none (wQv Q) 31 [some (.inr (.inr 92)), some (.inl x1), some (.inl x2)] [.inl s0, .inr (.inr 100)] M := by
  refine x_iconst 1 rfl (by decide) ?_
  exact x_goto rfl k
theorem uX12_frees_35 {d : Nat} {Q : yM → Prop} {M : yM} {x1 : Int} {x2 : Int} {s0 : Int} (k : XCi d 121 [.inr (.inr 92)] M (fun v M' => XW kX12_frees (d + 1) none (wQv Q) 39 [some (.inr (.inr 92)), some (.inl x1), some (.inl x2)] [.inl v, .inl s0, .inr (.inr 100)] M')) : XW kX12_frees (d + 1) none (wQv Q) 35 [some (.inr (.inr 92)), some (.inl x1), some (.inl x2)] [.inl s0, .inr (.inr 100)] M := by
  refine x_aload_n rfl rfl ?_
  exact x_calli (args := [.inr (.inr 92)]) rfl rfl rfl k
theorem uX12_frees_39 {d : Nat} {Q : yM → Prop} {M : yM} {x1 : Int} {x2 : Int} {s0 : Int} {s1 : Int} (h1 : 0 ≤ s1 ∧ s1 < 2048) (k : ∀ M', M' = (put M 100 s1 s0) → XW kX12_frees d none (wQv Q) 40 [some (.inr (.inr 92)), some (.inl x1), some (.inl x2)] [] M') : XW kX12_frees d none (wQv Q) 39 [some (.inr (.inr 92)), some (.inl x1), some (.inl x2)] [.inl s0, .inl s1, .inr (.inr 100)] M := by
  refine x_iastore rfl ⟨sh100, Nat.le_of_ble_eq_true rfl⟩ h1  ?_
  exact k _ rfl
theorem uX12_frees_40 {d : Nat} {Q : yM → Prop} {M : yM} {x1 : Int} {x2 : Int} (k : XW kX12_frees d none (wQv Q) 10 [some (.inr (.inr 92)), some (.inl x1), some (.inl (x2 + 1))] [] M) : XW kX12_frees d none (wQv Q) 40 [some (.inr (.inr 92)), some (.inl x1), some (.inl x2)] [] M := by
  refine x_iinc 1 rfl (by decide) rfl rfl ?_
  exact x_goto rfl k
theorem uX12_frees_46 {d : Nat} {Q : yM → Prop} {M : yM} {x1 : Int} {x2 : Int} (k : XW kX12_frees d none (wQv Q) 2 [some (.inr (.inr 92)), some (.inl (x1 + 1)), some (.inl x2)] [] M) : XW kX12_frees d none (wQv Q) 46 [some (.inr (.inr 92)), some (.inl x1), some (.inl x2)] [] M := by
  refine x_iinc 1 rfl (by decide) rfl rfl ?_
  exact x_goto rfl k
theorem uX12_frees_52 {d : Nat} {Q : yM → Prop} {M : yM} {x1 : Int} {wx2 : Option yV} (k : Q M) : XW kX12_frees d none (wQv Q) 52 [some (.inr (.inr 92)), some (.inl x1), wx2] [] M := by
  exact x_return rfl k
theorem eX12_empties {d : Nat} {Q : yM → Prop} {M : yM}   (h : XW kX12_empties d none (wQv Q) 0 [some (.inr (.inr 92)), none] [] M) : XCv d 128 [.inr (.inr 92)] M Q :=
  XC.ofW (Mm := (yX12_empties, cX12_empties, 2, none, 13, kX12_empties)) rfl (rcv_ok sh92) rfl rfl h
theorem uX12_empties_0 {d : Nat} {Q : yM → Prop} {M : yM}  (k : XW kX12_empties d none (wQv Q) 2 [some (.inr (.inr 92)), some (.inl 0)] [] M) : XW kX12_empties d none (wQv Q) 0 [some (.inr (.inr 92)), none] [] M := by
  refine x_iconst 0 rfl (by decide) ?_
  refine x_istore_n rfl (Nat.le_of_ble_eq_true rfl) rfl ?_
  exact k
theorem uX12_empties_2 {d : Nat} {Q : yM → Prop} {M : yM} {x1 : Int} (h1 : -2147483648 ≤ x1 ∧ x1 < 2147483648) (kt : x1 ≥ 4 → XW kX12_empties d none (wQv Q) 31 [some (.inr (.inr 92)), some (.inl x1)] [] M) (kf : x1 < 4 → XW kX12_empties d none (wQv Q) 7 [some (.inr (.inr 92)), some (.inl x1)] [] M) : XW kX12_empties d none (wQv Q) 2 [some (.inr (.inr 92)), some (.inl x1)] [] M := by
  refine x_iload_n rfl rfl ?_
  refine x_iconst 4 rfl (by decide) ?_
  exact x_icmpge rfl h1 (by decide) kt kf
theorem uX12_empties_7 {d : Nat} {Q : yM → Prop} {M : yM} {x1 : Int} (h1 : 0 ≤ (60 * x1) ∧ (60 * x1) < 240) (k : ∀ M', M' = (put M 107 (60 * x1) 48) → XW kX12_empties d none (wQv Q) 18 [some (.inr (.inr 92)), some (.inl x1)] [] M') : XW kX12_empties d none (wQv Q) 7 [some (.inr (.inr 92)), some (.inl x1)] [] M := by
  refine x_aload_n rfl rfl ?_
  refine x_getR rfl sh92 rfl ?_
  refine x_bipush 60 rfl (by decide) ?_
  refine x_iload_n rfl rfl ?_
  refine x_imul rfl ?_
  refine x_bipush 48 rfl (by decide) ?_
  refine x_iastore rfl ⟨sh107, Nat.le_of_ble_eq_true rfl⟩ h1  ?_
  exact k _ rfl
theorem uX12_empties_18 {d : Nat} {Q : yM → Prop} {M : yM} {x1 : Int} (h1 : 0 ≤ x1 ∧ x1 < 4) (k : ∀ M', M' = (put M 108 x1 1) → XW kX12_empties d none (wQv Q) 25 [some (.inr (.inr 92)), some (.inl x1)] [] M') : XW kX12_empties d none (wQv Q) 18 [some (.inr (.inr 92)), some (.inl x1)] [] M := by
  refine x_aload_n rfl rfl ?_
  refine x_getR rfl sh92 rfl ?_
  refine x_iload_n rfl rfl ?_
  refine x_iconst 1 rfl (by decide) ?_
  refine x_iastore rfl ⟨sh108, Nat.le_of_ble_eq_true rfl⟩ h1  ?_
  exact k _ rfl
theorem uX12_empties_25 {d : Nat} {Q : yM → Prop} {M : yM} {x1 : Int} (k : XW kX12_empties d none (wQv Q) 2 [some (.inr (.inr 92)), some (.inl (x1 + 1))] [] M) : XW kX12_empties d none (wQv Q) 25 [some (.inr (.inr 92)), some (.inl x1)] [] M := by
  refine x_iinc 1 rfl (by decide) rfl rfl ?_
  exact x_goto rfl k
theorem uX12_empties_31 {d : Nat} {Q : yM → Prop} {M : yM} {x1 : Int} (k : Q M) : XW kX12_empties d none (wQv Q) 31 [some (.inr (.inr 92)), some (.inl x1)] [] M := by
  exact x_return rfl k
theorem eX12_begins {d : Nat} {Q : yM → Prop} {M : yM} {x1 : Int}  (h : XW kX12_begins d none (wQv Q) 0 [some (.inr (.inr 92)), some (.inl x1), none] [] M) : XCv d 129 [.inr (.inr 92), .inl x1] M Q :=
  XC.ofW (Mm := (yX12_begins, cX12_begins, 3, none, 13, kX12_begins)) rfl (rcv_ok sh92) rfl rfl h
theorem uX12_begins_0 {d : Nat} {Q : yM → Prop} {M : yM} {x1 : Int} (k : ∀ M', M' = (put M 92 2 x1) → XW kX12_begins d none (wQv Q) 5 [some (.inr (.inr 92)), some (.inl x1), none] [] M') : XW kX12_begins d none (wQv Q) 0 [some (.inr (.inr 92)), some (.inl x1), none] [] M := by
  refine x_aload_n rfl rfl ?_
  refine x_iload_n rfl rfl ?_
  refine x_putI rfl rfl sh92 rfl ?_
  exact k _ rfl
theorem uX12_begins_5 {d : Nat} {Q : yM → Prop} {M : yM} {x1 : Int} (k : XW kX12_begins d none (wQv Q) 7 [some (.inr (.inr 92)), some (.inl x1), some (.inl 0)] [] M) : XW kX12_begins d none (wQv Q) 5 [some (.inr (.inr 92)), some (.inl x1), none] [] M := by
  refine x_iconst 0 rfl (by decide) ?_
  refine x_istore_n rfl (Nat.le_of_ble_eq_true rfl) rfl ?_
  exact k
theorem uX12_begins_7 {d : Nat} {Q : yM → Prop} {M : yM} {x1 : Int} {x2 : Int} (h1 : -2147483648 ≤ x2 ∧ x2 < 2147483648) (kt : x2 ≥ 8 → XW kX12_begins d none (wQv Q) 26 [some (.inr (.inr 92)), some (.inl x1), some (.inl x2)] [] M) (kf : x2 < 8 → XW kX12_begins d none (wQv Q) 13 [some (.inr (.inr 92)), some (.inl x1), some (.inl x2)] [] M) : XW kX12_begins d none (wQv Q) 7 [some (.inr (.inr 92)), some (.inl x1), some (.inl x2)] [] M := by
  refine x_iload_n rfl rfl ?_
  refine x_bipush 8 rfl (by decide) ?_
  exact x_icmpge rfl h1 (by decide) kt kf
theorem uX12_begins_13 {d : Nat} {Q : yM → Prop} {M : yM} {x1 : Int} {x2 : Int} (h1 : 0 ≤ x2 ∧ x2 < 8) (k : ∀ M', M' = (put M 93 x2 x2) → XW kX12_begins d none (wQv Q) 20 [some (.inr (.inr 92)), some (.inl x1), some (.inl x2)] [] M') : XW kX12_begins d none (wQv Q) 13 [some (.inr (.inr 92)), some (.inl x1), some (.inl x2)] [] M := by
  refine x_aload_n rfl rfl ?_
  refine x_getR rfl sh92 rfl ?_
  refine x_iload_n rfl rfl ?_
  refine x_iload_n rfl rfl ?_
  refine x_iastore rfl ⟨sh93, Nat.le_of_ble_eq_true rfl⟩ h1  ?_
  exact k _ rfl
theorem uX12_begins_20 {d : Nat} {Q : yM → Prop} {M : yM} {x1 : Int} {x2 : Int} (k : XW kX12_begins d none (wQv Q) 7 [some (.inr (.inr 92)), some (.inl x1), some (.inl (x2 + 1))] [] M) : XW kX12_begins d none (wQv Q) 20 [some (.inr (.inr 92)), some (.inl x1), some (.inl x2)] [] M := by
  refine x_iinc 1 rfl (by decide) rfl rfl ?_
  exact x_goto rfl k
theorem uX12_begins_26 {d : Nat} {Q : yM → Prop} {M : yM} {x1 : Int} {x2 : Int} (k : XCv d 126 [.inr (.inr 92)] M (fun M' => XW kX12_begins (d + 1) none (wQv Q) 30 [some (.inr (.inr 92)), some (.inl x1), some (.inl x2)] [] M')) : XW kX12_begins (d + 1) none (wQv Q) 26 [some (.inr (.inr 92)), some (.inl x1), some (.inl x2)] [] M := by
  refine x_aload_n rfl rfl ?_
  exact x_callv (args := [.inr (.inr 92)]) rfl rfl rfl k
theorem uX12_begins_30 {d : Nat} {Q : yM → Prop} {M : yM} {x1 : Int} {x2 : Int} (k : XCv d 127 [.inr (.inr 92)] M (fun M' => XW kX12_begins (d + 1) none (wQv Q) 34 [some (.inr (.inr 92)), some (.inl x1), some (.inl x2)] [] M')) : XW kX12_begins (d + 1) none (wQv Q) 30 [some (.inr (.inr 92)), some (.inl x1), some (.inl x2)] [] M := by
  refine x_aload_n rfl rfl ?_
  exact x_callv (args := [.inr (.inr 92)]) rfl rfl rfl k
theorem uX12_begins_34 {d : Nat} {Q : yM → Prop} {M : yM} {x1 : Int} {x2 : Int} (k : XCv d 128 [.inr (.inr 92)] M (fun M' => XW kX12_begins (d + 1) none (wQv Q) 38 [some (.inr (.inr 92)), some (.inl x1), some (.inl x2)] [] M')) : XW kX12_begins (d + 1) none (wQv Q) 34 [some (.inr (.inr 92)), some (.inl x1), some (.inl x2)] [] M := by
  refine x_aload_n rfl rfl ?_
  exact x_callv (args := [.inr (.inr 92)]) rfl rfl rfl k
theorem uX12_begins_38 {d : Nat} {Q : yM → Prop} {M : yM} {x1 : Int} {x2 : Int} (k : Q M) : XW kX12_begins d none (wQv Q) 38 [some (.inr (.inr 92)), some (.inl x1), some (.inl x2)] [] M := by
  exact x_return rfl k
theorem eX12_kinds {d : Nat} {Q : Int → yM → Prop} {M : yM} {x1 : Int}  (h : XW kX12_kinds d (some .int) (wQi Q) 0 [some (.inr (.inr 92)), some (.inl x1), none] [] M) : XCi d 130 [.inr (.inr 92), .inl x1] M Q :=
  XC.ofW (Mm := (yX12_kinds, cX12_kinds, 3, (some .int), 13, kX12_kinds)) rfl (rcv_ok sh92) rfl rfl h
theorem uX12_kinds_0 {d : Nat} {Q : Int → yM → Prop} {M : yM} {x1 : Int} (k : ∀ M', M' = (put M 92 0 0) → XW kX12_kinds d (some .int) (wQi Q) 5 [some (.inr (.inr 92)), some (.inl x1), none] [] M') : XW kX12_kinds d (some .int) (wQi Q) 0 [some (.inr (.inr 92)), some (.inl x1), none] [] M := by
  refine x_aload_n rfl rfl ?_
  refine x_iconst 0 rfl (by decide) ?_
  refine x_putI rfl rfl sh92 rfl ?_
  exact k _ rfl
theorem uX12_kinds_5 {d : Nat} {Q : Int → yM → Prop} {M : yM} {x1 : Int} (k : XCi d 120 [.inl x1, .inl 1, .inl 8] M (fun v M' => XW kX12_kinds (d + 1) (some .int) (wQi Q) 12 [some (.inr (.inr 92)), some (.inl x1), none] [.inl v] M')) : XW kX12_kinds (d + 1) (some .int) (wQi Q) 5 [some (.inr (.inr 92)), some (.inl x1), none] [] M := by
  refine x_iload_n rfl rfl ?_
  refine x_iconst 1 rfl (by decide) ?_
  refine x_bipush 8 rfl (by decide) ?_
  exact x_calli (args := [.inl x1, .inl 1, .inl 8]) rfl rfl rfl k
theorem uX12_kinds_12 {d : Nat} {Q : Int → yM → Prop} {M : yM} {x1 : Int} {s0 : Int} (h1 : -2147483648 ≤ s0 ∧ s0 < 2147483648) (kt : s0 ≠ 0 → XW kX12_kinds d (some .int) (wQi Q) 17 [some (.inr (.inr 92)), some (.inl x1), none] [] M) (kf : s0 = 0 → XW kX12_kinds d (some .int) (wQi Q) 15 [some (.inr (.inr 92)), some (.inl x1), none] [] M) : XW kX12_kinds d (some .int) (wQi Q) 12 [some (.inr (.inr 92)), some (.inl x1), none] [.inl s0] M := by
  exact x_ifne rfl h1 kt kf
theorem uX12_kinds_15 {d : Nat} {Q : Int → yM → Prop} {M : yM} {x1 : Int} (k : Q (-1) M) : XW kX12_kinds d (some .int) (wQi Q) 15 [some (.inr (.inr 92)), some (.inl x1), none] [] M := by
  refine x_iconst (-1) rfl (by decide) ?_
  exact x_ireturn rfl k
theorem uX12_kinds_17 {d : Nat} {Q : Int → yM → Prop} {M : yM} {x1 : Int} (k : XCv d 129 [.inr (.inr 92), .inl x1] M (fun M' => XW kX12_kinds (d + 1) (some .int) (wQi Q) 27 [some (.inr (.inr 92)), some (.inl x1), some (.inl (ld M 92 2))] [] M')) : XW kX12_kinds (d + 1) (some .int) (wQi Q) 17 [some (.inr (.inr 92)), some (.inl x1), none] [] M := by
  refine x_aload_n rfl rfl ?_
  refine x_getI rfl sh92 rfl ?_
  refine x_istore_n rfl (Nat.le_of_ble_eq_true rfl) rfl ?_
  refine x_aload_n rfl rfl ?_
  refine x_iload_n rfl rfl ?_
  exact x_callv (args := [.inr (.inr 92), .inl x1]) rfl rfl rfl k
theorem uX12_kinds_27 {d : Nat} {Q : Int → yM → Prop} {M : yM} {x1 : Int} {x2 : Int} (k : Q x2 M) : XW kX12_kinds d (some .int) (wQi Q) 27 [some (.inr (.inr 92)), some (.inl x1), some (.inl x2)] [] M := by
  refine x_iload_n rfl rfl ?_
  exact x_ireturn rfl k
theorem eX12_turn {d : Nat} {Q : Int → yM → Prop} {M : yM} {x1 : Int} {x2 : Int}  (h : XW kX12_turn d (some .int) (wQi Q) 0 [some (.inr (.inr 92)), some (.inl x1), some (.inl x2)] [] M) : XCi d 131 [.inr (.inr 92), .inl x1, .inl x2] M Q :=
  XC.ofW (Mm := (yX12_turn, cX12_turn, 3, (some .int), 13, kX12_turn)) rfl (rcv_ok sh92) rfl rfl h
theorem uX12_turn_0 {d : Nat} {Q : Int → yM → Prop} {M : yM} {x1 : Int} {x2 : Int} (k : ∀ M', M' = (put M 92 0 0) → XW kX12_turn d (some .int) (wQi Q) 5 [some (.inr (.inr 92)), some (.inl x1), some (.inl x2)] [] M') : XW kX12_turn d (some .int) (wQi Q) 0 [some (.inr (.inr 92)), some (.inl x1), some (.inl x2)] [] M := by
  refine x_aload_n rfl rfl ?_
  refine x_iconst 0 rfl (by decide) ?_
  refine x_putI rfl rfl sh92 rfl ?_
  exact k _ rfl
theorem uX12_turn_5 {d : Nat} {Q : Int → yM → Prop} {M : yM} {x1 : Int} {x2 : Int} (k : XCi d 122 [.inr (.inr 92), .inl x1] M (fun v M' => XW kX12_turn (d + 1) (some .int) (wQi Q) 10 [some (.inr (.inr 92)), some (.inl x1), some (.inl x2)] [.inl v] M')) : XW kX12_turn (d + 1) (some .int) (wQi Q) 5 [some (.inr (.inr 92)), some (.inl x1), some (.inl x2)] [] M := by
  refine x_aload_n rfl rfl ?_
  refine x_iload_n rfl rfl ?_
  exact x_calli (args := [.inr (.inr 92), .inl x1]) rfl rfl rfl k
theorem uX12_turn_10 {d : Nat} {Q : Int → yM → Prop} {M : yM} {x1 : Int} {x2 : Int} {s0 : Int} (h1 : -2147483648 ≤ s0 ∧ s0 < 2147483648) (kt : s0 = 0 → XW kX12_turn d (some .int) (wQi Q) 21 [some (.inr (.inr 92)), some (.inl x1), some (.inl x2)] [] M) (kf : s0 ≠ 0 → XW kX12_turn d (some .int) (wQi Q) 13 [some (.inr (.inr 92)), some (.inl x1), some (.inl x2)] [] M) : XW kX12_turn d (some .int) (wQi Q) 10 [some (.inr (.inr 92)), some (.inl x1), some (.inl x2)] [.inl s0] M := by
  exact x_ifeq rfl h1 kt kf
theorem uX12_turn_13 {d : Nat} {Q : Int → yM → Prop} {M : yM} {x1 : Int} {x2 : Int} (k : XCi d 122 [.inr (.inr 92), .inl x2] M (fun v M' => XW kX12_turn (d + 1) (some .int) (wQi Q) 18 [some (.inr (.inr 92)), some (.inl x1), some (.inl x2)] [.inl v] M')) : XW kX12_turn (d + 1) (some .int) (wQi Q) 13 [some (.inr (.inr 92)), some (.inl x1), some (.inl x2)] [] M := by
  refine x_aload_n rfl rfl ?_
  refine x_iload_n rfl rfl ?_
  exact x_calli (args := [.inr (.inr 92), .inl x2]) rfl rfl rfl k
theorem uX12_turn_18 {d : Nat} {Q : Int → yM → Prop} {M : yM} {x1 : Int} {x2 : Int} {s0 : Int} (h1 : -2147483648 ≤ s0 ∧ s0 < 2147483648) (kt : s0 ≠ 0 → XW kX12_turn d (some .int) (wQi Q) 23 [some (.inr (.inr 92)), some (.inl x1), some (.inl x2)] [] M) (kf : s0 = 0 → XW kX12_turn d (some .int) (wQi Q) 21 [some (.inr (.inr 92)), some (.inl x1), some (.inl x2)] [] M) : XW kX12_turn d (some .int) (wQi Q) 18 [some (.inr (.inr 92)), some (.inl x1), some (.inl x2)] [.inl s0] M := by
  exact x_ifne rfl h1 kt kf
theorem uX12_turn_21 {d : Nat} {Q : Int → yM → Prop} {M : yM} {x1 : Int} {x2 : Int} (k : Q (-1) M) : XW kX12_turn d (some .int) (wQi Q) 21 [some (.inr (.inr 92)), some (.inl x1), some (.inl x2)] [] M := by
  refine x_iconst (-1) rfl (by decide) ?_
  exact x_ireturn rfl k
theorem uX12_turn_23 {d : Nat} {Q : Int → yM → Prop} {M : yM} {x1 : Int} {x2 : Int} (h1 : 0 ≤ x1 ∧ x1 < 8) (h2 : 0 ≤ x1 ∧ x1 < 8) (h3 : 0 ≤ (ld M 93 x1) ∧ (ld M 93 x1) < 8) (k : ∀ M', M' = (put M 93 (ld M 93 x1) (ld M 93 x1)) → XW kX12_turn d (some .int) (wQi Q) 40 [some (.inr (.inr 92)), some (.inl x1), some (.inl x2)] [] M') : XW kX12_turn d (some .int) (wQi Q) 23 [some (.inr (.inr 92)), some (.inl x1), some (.inl x2)] [] M := by
  refine x_aload_n rfl rfl ?_
  refine x_getR rfl sh92 rfl ?_
  refine x_aload_n rfl rfl ?_
  refine x_getR rfl sh92 rfl ?_
  refine x_iload_n rfl rfl ?_
  refine x_iaload rfl ⟨sh93, Nat.le_of_ble_eq_true rfl⟩ h1 ?_
  refine x_aload_n rfl rfl ?_
  refine x_getR rfl sh92 rfl ?_
  refine x_iload_n rfl rfl ?_
  refine x_iaload rfl ⟨sh93, Nat.le_of_ble_eq_true rfl⟩ h2 ?_
  refine x_iastore rfl ⟨sh93, Nat.le_of_ble_eq_true rfl⟩ h3  ?_
  exact k _ rfl
theorem uX12_turn_40 {d : Nat} {Q : Int → yM → Prop} {M : yM} {x1 : Int} {x2 : Int} (h1 : 0 ≤ x2 ∧ x2 < 8) (h2 : 0 ≤ x2 ∧ x2 < 8) (h3 : 0 ≤ (ld M 93 x2) ∧ (ld M 93 x2) < 8) (k : ∀ M', M' = (put M 93 (ld M 93 x2) (ld M 93 x2)) → XW kX12_turn d (some .int) (wQi Q) 57 [some (.inr (.inr 92)), some (.inl x1), some (.inl x2)] [] M') : XW kX12_turn d (some .int) (wQi Q) 40 [some (.inr (.inr 92)), some (.inl x1), some (.inl x2)] [] M := by
  refine x_aload_n rfl rfl ?_
  refine x_getR rfl sh92 rfl ?_
  refine x_aload_n rfl rfl ?_
  refine x_getR rfl sh92 rfl ?_
  refine x_iload_n rfl rfl ?_
  refine x_iaload rfl ⟨sh93, Nat.le_of_ble_eq_true rfl⟩ h1 ?_
  refine x_aload_n rfl rfl ?_
  refine x_getR rfl sh92 rfl ?_
  refine x_iload_n rfl rfl ?_
  refine x_iaload rfl ⟨sh93, Nat.le_of_ble_eq_true rfl⟩ h2 ?_
  refine x_iastore rfl ⟨sh93, Nat.le_of_ble_eq_true rfl⟩ h3  ?_
  exact k _ rfl
theorem uX12_turn_57 {d : Nat} {Q : Int → yM → Prop} {M : yM} {x1 : Int} {x2 : Int} (h1 : 0 ≤ x1 ∧ x1 < 8) (k : ∀ M', M' = (put M 93 x1 x2) → XW kX12_turn d (some .int) (wQi Q) 64 [some (.inr (.inr 92)), some (.inl x1), some (.inl x2)] [] M') : XW kX12_turn d (some .int) (wQi Q) 57 [some (.inr (.inr 92)), some (.inl x1), some (.inl x2)] [] M := by
  refine x_aload_n rfl rfl ?_
  refine x_getR rfl sh92 rfl ?_
  refine x_iload_n rfl rfl ?_
  refine x_iload_n rfl rfl ?_
  refine x_iastore rfl ⟨sh93, Nat.le_of_ble_eq_true rfl⟩ h1  ?_
  exact k _ rfl
theorem uX12_turn_64 {d : Nat} {Q : Int → yM → Prop} {M : yM} {x1 : Int} {x2 : Int} (h1 : 0 ≤ x2 ∧ x2 < 8) (k : ∀ M', M' = (put M 93 x2 x1) → XW kX12_turn d (some .int) (wQi Q) 71 [some (.inr (.inr 92)), some (.inl x1), some (.inl x2)] [] M') : XW kX12_turn d (some .int) (wQi Q) 64 [some (.inr (.inr 92)), some (.inl x1), some (.inl x2)] [] M := by
  refine x_aload_n rfl rfl ?_
  refine x_getR rfl sh92 rfl ?_
  refine x_iload_n rfl rfl ?_
  refine x_iload_n rfl rfl ?_
  refine x_iastore rfl ⟨sh93, Nat.le_of_ble_eq_true rfl⟩ h1  ?_
  exact k _ rfl
theorem uX12_turn_71 {d : Nat} {Q : Int → yM → Prop} {M : yM} {x1 : Int} {x2 : Int} (k : XCv d 126 [.inr (.inr 92)] M (fun M' => XW kX12_turn (d + 1) (some .int) (wQi Q) 75 [some (.inr (.inr 92)), some (.inl x1), some (.inl x2)] [] M')) : XW kX12_turn (d + 1) (some .int) (wQi Q) 71 [some (.inr (.inr 92)), some (.inl x1), some (.inl x2)] [] M := by
  refine x_aload_n rfl rfl ?_
  exact x_callv (args := [.inr (.inr 92)]) rfl rfl rfl k
theorem uX12_turn_75 {d : Nat} {Q : Int → yM → Prop} {M : yM} {x1 : Int} {x2 : Int} (k : XCv d 127 [.inr (.inr 92)] M (fun M' => XW kX12_turn (d + 1) (some .int) (wQi Q) 79 [some (.inr (.inr 92)), some (.inl x1), some (.inl x2)] [] M')) : XW kX12_turn (d + 1) (some .int) (wQi Q) 75 [some (.inr (.inr 92)), some (.inl x1), some (.inl x2)] [] M := by
  refine x_aload_n rfl rfl ?_
  exact x_callv (args := [.inr (.inr 92)]) rfl rfl rfl k
theorem uX12_turn_79 {d : Nat} {Q : Int → yM → Prop} {M : yM} {x1 : Int} {x2 : Int} (k : Q 1 M) : XW kX12_turn d (some .int) (wQi Q) 79 [some (.inr (.inr 92)), some (.inl x1), some (.inl x2)] [] M := by
  refine x_iconst 1 rfl (by decide) ?_
  exact x_ireturn rfl k
theorem eX12_marks {d : Nat} {Q : yM → Prop} {M : yM} {x1 : Int} {x2 : Int} {x3 : Int} {x4 : Int}  (h : XW kX12_marks d none (wQv Q) 0 [some (.inr (.inr 92)), some (.inl x1), some (.inl x2), some (.inl x3), some (.inl x4), none] [] M) : XCv d 132 [.inr (.inr 92), .inl x1, .inl x2, .inl x3, .inl x4] M Q :=
  XC.ofW (Mm := (yX12_marks, cX12_marks, 6, none, 13, kX12_marks)) rfl (rcv_ok sh92) rfl rfl h
theorem uX12_marks_0 {d : Nat} {Q : yM → Prop} {M : yM} {x1 : Int} {x2 : Int} {x3 : Int} {x4 : Int} (h1 : 0 ≤ ((8 * x1) + x2) ∧ ((8 * x1) + x2) < 64) (h2 : 0 ≤ ((8 * x1) + x2) ∧ ((8 * x1) + x2) < 64) (k : ∀ M', M' = (put M 94 ((8 * x1) + x2) (yor (yand (ld M 94 ((8 * x1) + x2)) (yxor (yshl 1 x3) (-1))) (yshl x4 x3))) → XW kX12_marks d none (wQv Q) 33 [some (.inr (.inr 92)), some (.inl x1), some (.inl x2), some (.inl x3), some (.inl x4), some (.inl ((8 * x1) + x2))] [] M') : XW kX12_marks d none (wQv Q) 0 [some (.inr (.inr 92)), some (.inl x1), some (.inl x2), some (.inl x3), some (.inl x4), none] [] M := by
  refine x_bipush 8 rfl (by decide) ?_
  refine x_iload_n rfl rfl ?_
  refine x_imul rfl ?_
  refine x_iload_n rfl rfl ?_
  refine x_iadd rfl ?_
  refine x_istore rfl (Nat.le_of_ble_eq_true rfl) rfl ?_
  refine x_aload_n rfl rfl ?_
  refine x_getR rfl sh92 rfl ?_
  refine x_iload rfl rfl ?_
  refine x_aload_n rfl rfl ?_
  refine x_getR rfl sh92 rfl ?_
  refine x_iload rfl rfl ?_
  refine x_iaload rfl ⟨sh94, Nat.le_of_ble_eq_true rfl⟩ h1 ?_
  refine x_iconst 1 rfl (by decide) ?_
  refine x_iload_n rfl rfl ?_
  refine x_ishl rfl ?_
  refine x_iconst (-1) rfl (by decide) ?_
  refine x_ixor rfl ?_
  refine x_iand rfl ?_
  refine x_iload rfl rfl ?_
  refine x_iload_n rfl rfl ?_
  refine x_ishl rfl ?_
  refine x_ior rfl ?_
  refine x_iastore rfl ⟨sh94, Nat.le_of_ble_eq_true rfl⟩ h2  ?_
  exact k _ rfl
theorem uX12_marks_33 {d : Nat} {Q : yM → Prop} {M : yM} {x1 : Int} {x2 : Int} {x3 : Int} {x4 : Int} {x5 : Int} (k : Q M) : XW kX12_marks d none (wQv Q) 33 [some (.inr (.inr 92)), some (.inl x1), some (.inl x2), some (.inl x3), some (.inl x4), some (.inl x5)] [] M := by
  exact x_return rfl k
theorem eX12_triangle {d : Nat} {Q : Int → yM → Prop} {M : yM} {x1 : Int} {x2 : Int} {x3 : Int} {x4 : Int}  (h : XW kX12_triangle d (some .int) (wQi Q) 0 [some (.inr (.inr 92)), some (.inl x1), some (.inl x2), some (.inl x3), some (.inl x4), none, none, none, none] [] M) : XCi d 133 [.inr (.inr 92), .inl x1, .inl x2, .inl x3, .inl x4] M Q :=
  XC.ofW (Mm := (yX12_triangle, cX12_triangle, 9, (some .int), 13, kX12_triangle)) rfl (rcv_ok sh92) rfl rfl h
theorem uX12_triangle_0 {d : Nat} {Q : Int → yM → Prop} {M : yM} {x1 : Int} {x2 : Int} {x3 : Int} {x4 : Int} (k : ∀ M', M' = (put M 92 0 0) → XW kX12_triangle d (some .int) (wQi Q) 5 [some (.inr (.inr 92)), some (.inl x1), some (.inl x2), some (.inl x3), some (.inl x4), none, none, none, none] [] M') : XW kX12_triangle d (some .int) (wQi Q) 0 [some (.inr (.inr 92)), some (.inl x1), some (.inl x2), some (.inl x3), some (.inl x4), none, none, none, none] [] M := by
  refine x_aload_n rfl rfl ?_
  refine x_iconst 0 rfl (by decide) ?_
  refine x_putI rfl rfl sh92 rfl ?_
  exact k _ rfl
theorem uX12_triangle_5 {d : Nat} {Q : Int → yM → Prop} {M : yM} {x1 : Int} {x2 : Int} {x3 : Int} {x4 : Int} (k : XCi d 122 [.inr (.inr 92), .inl x1] M (fun v M' => XW kX12_triangle (d + 1) (some .int) (wQi Q) 10 [some (.inr (.inr 92)), some (.inl x1), some (.inl x2), some (.inl x3), some (.inl x4), none, none, none, none] [.inl v] M')) : XW kX12_triangle (d + 1) (some .int) (wQi Q) 5 [some (.inr (.inr 92)), some (.inl x1), some (.inl x2), some (.inl x3), some (.inl x4), none, none, none, none] [] M := by
  refine x_aload_n rfl rfl ?_
  refine x_iload_n rfl rfl ?_
  exact x_calli (args := [.inr (.inr 92), .inl x1]) rfl rfl rfl k
theorem uX12_triangle_10 {d : Nat} {Q : Int → yM → Prop} {M : yM} {x1 : Int} {x2 : Int} {x3 : Int} {x4 : Int} {s0 : Int} (h1 : -2147483648 ≤ s0 ∧ s0 < 2147483648) (kt : s0 = 0 → XW kX12_triangle d (some .int) (wQi Q) 39 [some (.inr (.inr 92)), some (.inl x1), some (.inl x2), some (.inl x3), some (.inl x4), none, none, none, none] [] M) (kf : s0 ≠ 0 → XW kX12_triangle d (some .int) (wQi Q) 13 [some (.inr (.inr 92)), some (.inl x1), some (.inl x2), some (.inl x3), some (.inl x4), none, none, none, none] [] M) : XW kX12_triangle d (some .int) (wQi Q) 10 [some (.inr (.inr 92)), some (.inl x1), some (.inl x2), some (.inl x3), some (.inl x4), none, none, none, none] [.inl s0] M := by
  exact x_ifeq rfl h1 kt kf
theorem uX12_triangle_13 {d : Nat} {Q : Int → yM → Prop} {M : yM} {x1 : Int} {x2 : Int} {x3 : Int} {x4 : Int} (k : XCi d 122 [.inr (.inr 92), .inl x2] M (fun v M' => XW kX12_triangle (d + 1) (some .int) (wQi Q) 18 [some (.inr (.inr 92)), some (.inl x1), some (.inl x2), some (.inl x3), some (.inl x4), none, none, none, none] [.inl v] M')) : XW kX12_triangle (d + 1) (some .int) (wQi Q) 13 [some (.inr (.inr 92)), some (.inl x1), some (.inl x2), some (.inl x3), some (.inl x4), none, none, none, none] [] M := by
  refine x_aload_n rfl rfl ?_
  refine x_iload_n rfl rfl ?_
  exact x_calli (args := [.inr (.inr 92), .inl x2]) rfl rfl rfl k
theorem uX12_triangle_18 {d : Nat} {Q : Int → yM → Prop} {M : yM} {x1 : Int} {x2 : Int} {x3 : Int} {x4 : Int} {s0 : Int} (h1 : -2147483648 ≤ s0 ∧ s0 < 2147483648) (kt : s0 = 0 → XW kX12_triangle d (some .int) (wQi Q) 39 [some (.inr (.inr 92)), some (.inl x1), some (.inl x2), some (.inl x3), some (.inl x4), none, none, none, none] [] M) (kf : s0 ≠ 0 → XW kX12_triangle d (some .int) (wQi Q) 21 [some (.inr (.inr 92)), some (.inl x1), some (.inl x2), some (.inl x3), some (.inl x4), none, none, none, none] [] M) : XW kX12_triangle d (some .int) (wQi Q) 18 [some (.inr (.inr 92)), some (.inl x1), some (.inl x2), some (.inl x3), some (.inl x4), none, none, none, none] [.inl s0] M := by
  exact x_ifeq rfl h1 kt kf
theorem uX12_triangle_21 {d : Nat} {Q : Int → yM → Prop} {M : yM} {x1 : Int} {x2 : Int} {x3 : Int} {x4 : Int} (k : XCi d 122 [.inr (.inr 92), .inl x3] M (fun v M' => XW kX12_triangle (d + 1) (some .int) (wQi Q) 26 [some (.inr (.inr 92)), some (.inl x1), some (.inl x2), some (.inl x3), some (.inl x4), none, none, none, none] [.inl v] M')) : XW kX12_triangle (d + 1) (some .int) (wQi Q) 21 [some (.inr (.inr 92)), some (.inl x1), some (.inl x2), some (.inl x3), some (.inl x4), none, none, none, none] [] M := by
  refine x_aload_n rfl rfl ?_
  refine x_iload_n rfl rfl ?_
  exact x_calli (args := [.inr (.inr 92), .inl x3]) rfl rfl rfl k
theorem uX12_triangle_26 {d : Nat} {Q : Int → yM → Prop} {M : yM} {x1 : Int} {x2 : Int} {x3 : Int} {x4 : Int} {s0 : Int} (h1 : -2147483648 ≤ s0 ∧ s0 < 2147483648) (kt : s0 = 0 → XW kX12_triangle d (some .int) (wQi Q) 39 [some (.inr (.inr 92)), some (.inl x1), some (.inl x2), some (.inl x3), some (.inl x4), none, none, none, none] [] M) (kf : s0 ≠ 0 → XW kX12_triangle d (some .int) (wQi Q) 29 [some (.inr (.inr 92)), some (.inl x1), some (.inl x2), some (.inl x3), some (.inl x4), none, none, none, none] [] M) : XW kX12_triangle d (some .int) (wQi Q) 26 [some (.inr (.inr 92)), some (.inl x1), some (.inl x2), some (.inl x3), some (.inl x4), none, none, none, none] [.inl s0] M := by
  exact x_ifeq rfl h1 kt kf
theorem uX12_triangle_29 {d : Nat} {Q : Int → yM → Prop} {M : yM} {x1 : Int} {x2 : Int} {x3 : Int} {x4 : Int} (k : XCi d 120 [.inl x4, .inl 0, .inl 1] M (fun v M' => XW kX12_triangle (d + 1) (some .int) (wQi Q) 36 [some (.inr (.inr 92)), some (.inl x1), some (.inl x2), some (.inl x3), some (.inl x4), none, none, none, none] [.inl v] M')) : XW kX12_triangle (d + 1) (some .int) (wQi Q) 29 [some (.inr (.inr 92)), some (.inl x1), some (.inl x2), some (.inl x3), some (.inl x4), none, none, none, none] [] M := by
  refine x_iload rfl rfl ?_
  refine x_iconst 0 rfl (by decide) ?_
  refine x_iconst 1 rfl (by decide) ?_
  exact x_calli (args := [.inl x4, .inl 0, .inl 1]) rfl rfl rfl k
theorem uX12_triangle_36 {d : Nat} {Q : Int → yM → Prop} {M : yM} {x1 : Int} {x2 : Int} {x3 : Int} {x4 : Int} {s0 : Int} (h1 : -2147483648 ≤ s0 ∧ s0 < 2147483648) (kt : s0 ≠ 0 → XW kX12_triangle d (some .int) (wQi Q) 41 [some (.inr (.inr 92)), some (.inl x1), some (.inl x2), some (.inl x3), some (.inl x4), none, none, none, none] [] M) (kf : s0 = 0 → XW kX12_triangle d (some .int) (wQi Q) 39 [some (.inr (.inr 92)), some (.inl x1), some (.inl x2), some (.inl x3), some (.inl x4), none, none, none, none] [] M) : XW kX12_triangle d (some .int) (wQi Q) 36 [some (.inr (.inr 92)), some (.inl x1), some (.inl x2), some (.inl x3), some (.inl x4), none, none, none, none] [.inl s0] M := by
  exact x_ifne rfl h1 kt kf
theorem uX12_triangle_39 {d : Nat} {Q : Int → yM → Prop} {M : yM} {x1 : Int} {x2 : Int} {x3 : Int} {x4 : Int} (k : Q (-1) M) : XW kX12_triangle d (some .int) (wQi Q) 39 [some (.inr (.inr 92)), some (.inl x1), some (.inl x2), some (.inl x3), some (.inl x4), none, none, none, none] [] M := by
  refine x_iconst (-1) rfl (by decide) ?_
  exact x_ireturn rfl k
theorem uX12_triangle_41 {d : Nat} {Q : Int → yM → Prop} {M : yM} {x1 : Int} {x2 : Int} {x3 : Int} {x4 : Int} (k : XCi d 125 [.inr (.inr 92), .inl x1, .inl x2, .inl x3] M (fun v M' => XW kX12_triangle (d + 1) (some .int) (wQi Q) 48 [some (.inr (.inr 92)), some (.inl x1), some (.inl x2), some (.inl x3), some (.inl x4), none, none, none, none] [.inl v] M')) : XW kX12_triangle (d + 1) (some .int) (wQi Q) 41 [some (.inr (.inr 92)), some (.inl x1), some (.inl x2), some (.inl x3), some (.inl x4), none, none, none, none] [] M := by
  refine x_aload_n rfl rfl ?_
  refine x_iload_n rfl rfl ?_
  refine x_iload_n rfl rfl ?_
  refine x_iload_n rfl rfl ?_
  exact x_calli (args := [.inr (.inr 92), .inl x1, .inl x2, .inl x3]) rfl rfl rfl k
theorem uX12_triangle_48 {d : Nat} {Q : Int → yM → Prop} {M : yM} {x1 : Int} {x2 : Int} {x3 : Int} {x4 : Int} {s0 : Int} (h1 : -2147483648 ≤ s0 ∧ s0 < 2147483648) (kt : s0 = 0 → XW kX12_triangle d (some .int) (wQi Q) 55 [some (.inr (.inr 92)), some (.inl x1), some (.inl x2), some (.inl x3), some (.inl x4), none, none, none, none] [] M) (kf : s0 ≠ 0 → XW kX12_triangle d (some .int) (wQi Q) 51 [some (.inr (.inr 92)), some (.inl x1), some (.inl x2), some (.inl x3), some (.inl x4), none, none, none, none] [] M) : XW kX12_triangle d (some .int) (wQi Q) 48 [some (.inr (.inr 92)), some (.inl x1), some (.inl x2), some (.inl x3), some (.inl x4), none, none, none, none] [.inl s0] M := by
  exact x_ifeq rfl h1 kt kf
theorem uX12_triangle_51 {d : Nat} {Q : Int → yM → Prop} {M : yM} {x1 : Int} {x2 : Int} {x3 : Int} {x4 : Int} (k : XW kX12_triangle d (some .int) (wQi Q) 56 [some (.inr (.inr 92)), some (.inl x1), some (.inl x2), some (.inl x3), some (.inl x4), none, none, none, none] [.inl 1] M) : XW kX12_triangle d (some .int) (wQi Q) 51 [some (.inr (.inr 92)), some (.inl x1), some (.inl x2), some (.inl x3), some (.inl x4), none, none, none, none] [] M := by
  refine x_iconst 1 rfl (by decide) ?_
  exact x_goto rfl k
theorem uX12_triangle_55 {d : Nat} {Q : Int → yM → Prop} {M : yM} {x1 : Int} {x2 : Int} {x3 : Int} {x4 : Int} (k : XW kX12_triangle d (some .int) (wQi Q) 56 [some (.inr (.inr 92)), some (.inl x1), some (.inl x2), some (.inl x3), some (.inl x4), none, none, none, none] [.inl 0] M) : XW kX12_triangle d (some .int) (wQi Q) 55 [some (.inr (.inr 92)), some (.inl x1), some (.inl x2), some (.inl x3), some (.inl x4), none, none, none, none] [] M := by
  refine x_iconst 0 rfl (by decide) ?_
  exact k
theorem uX12_triangle_56 {d : Nat} {Q : Int → yM → Prop} {M : yM} {x1 : Int} {x2 : Int} {x3 : Int} {x4 : Int} {s0 : Int} (h1 : 0 ≤ x1 ∧ x1 < 8) (h2 : 0 ≤ x2 ∧ x2 < 8) (h3 : 0 ≤ x3 ∧ x3 < 8) (k : XCv d 132 [.inr (.inr 92), .inl x1, .inl x2, .inl x3, .inl x4] M (fun M' => XW kX12_triangle (d + 1) (some .int) (wQi Q) 91 [some (.inr (.inr 92)), some (.inl x1), some (.inl x2), some (.inl x3), some (.inl x4), some (.inl s0), some (.inl (ld M 93 x1)), some (.inl (ld M 93 x2)), some (.inl (ld M 93 x3))] [] M')) : XW kX12_triangle (d + 1) (some .int) (wQi Q) 56 [some (.inr (.inr 92)), some (.inl x1), some (.inl x2), some (.inl x3), some (.inl x4), none, none, none, none] [.inl s0] M := by
  refine x_istore rfl (Nat.le_of_ble_eq_true rfl) rfl ?_
  refine x_aload_n rfl rfl ?_
  refine x_getR rfl sh92 rfl ?_
  refine x_iload_n rfl rfl ?_
  refine x_iaload rfl ⟨sh93, Nat.le_of_ble_eq_true rfl⟩ h1 ?_
  refine x_istore rfl (Nat.le_of_ble_eq_true rfl) rfl ?_
  refine x_aload_n rfl rfl ?_
  refine x_getR rfl sh92 rfl ?_
  refine x_iload_n rfl rfl ?_
  refine x_iaload rfl ⟨sh93, Nat.le_of_ble_eq_true rfl⟩ h2 ?_
  refine x_istore rfl (Nat.le_of_ble_eq_true rfl) rfl ?_
  refine x_aload_n rfl rfl ?_
  refine x_getR rfl sh92 rfl ?_
  refine x_iload_n rfl rfl ?_
  refine x_iaload rfl ⟨sh93, Nat.le_of_ble_eq_true rfl⟩ h3 ?_
  refine x_istore rfl (Nat.le_of_ble_eq_true rfl) rfl ?_
  refine x_aload_n rfl rfl ?_
  refine x_iload_n rfl rfl ?_
  refine x_iload_n rfl rfl ?_
  refine x_iload_n rfl rfl ?_
  refine x_iload rfl rfl ?_
  exact x_callv (args := [.inr (.inr 92), .inl x1, .inl x2, .inl x3, .inl x4]) rfl rfl rfl k
theorem uX12_triangle_91 {d : Nat} {Q : Int → yM → Prop} {M : yM} {x1 : Int} {x2 : Int} {x3 : Int} {x4 : Int} {x5 : Int} {x6 : Int} {x7 : Int} {x8 : Int} (k : XCv d 132 [.inr (.inr 92), .inl x3, .inl x7, .inl x1, .inl x4] M (fun M' => XW kX12_triangle (d + 1) (some .int) (wQi Q) 101 [some (.inr (.inr 92)), some (.inl x1), some (.inl x2), some (.inl x3), some (.inl x4), some (.inl x5), some (.inl x6), some (.inl x7), some (.inl x8)] [] M')) : XW kX12_triangle (d + 1) (some .int) (wQi Q) 91 [some (.inr (.inr 92)), some (.inl x1), some (.inl x2), some (.inl x3), some (.inl x4), some (.inl x5), some (.inl x6), some (.inl x7), some (.inl x8)] [] M := by
  refine x_aload_n rfl rfl ?_
  refine x_iload_n rfl rfl ?_
  refine x_iload rfl rfl ?_
  refine x_iload_n rfl rfl ?_
  refine x_iload rfl rfl ?_
  exact x_callv (args := [.inr (.inr 92), .inl x3, .inl x7, .inl x1, .inl x4]) rfl rfl rfl k
theorem uX12_triangle_101 {d : Nat} {Q : Int → yM → Prop} {M : yM} {x1 : Int} {x2 : Int} {x3 : Int} {x4 : Int} {x5 : Int} {x6 : Int} {x7 : Int} {x8 : Int} (k : XCv d 132 [.inr (.inr 92), .inl x6, .inl x3, .inl x2, .inl x4] M (fun M' => XW kX12_triangle (d + 1) (some .int) (wQi Q) 111 [some (.inr (.inr 92)), some (.inl x1), some (.inl x2), some (.inl x3), some (.inl x4), some (.inl x5), some (.inl x6), some (.inl x7), some (.inl x8)] [] M')) : XW kX12_triangle (d + 1) (some .int) (wQi Q) 101 [some (.inr (.inr 92)), some (.inl x1), some (.inl x2), some (.inl x3), some (.inl x4), some (.inl x5), some (.inl x6), some (.inl x7), some (.inl x8)] [] M := by
  refine x_aload_n rfl rfl ?_
  refine x_iload rfl rfl ?_
  refine x_iload_n rfl rfl ?_
  refine x_iload_n rfl rfl ?_
  refine x_iload rfl rfl ?_
  exact x_callv (args := [.inr (.inr 92), .inl x6, .inl x3, .inl x2, .inl x4]) rfl rfl rfl k
theorem uX12_triangle_111 {d : Nat} {Q : Int → yM → Prop} {M : yM} {x1 : Int} {x2 : Int} {x3 : Int} {x4 : Int} {x5 : Int} {x6 : Int} {x7 : Int} {x8 : Int} (k : XCv d 132 [.inr (.inr 92), .inl x2, .inl x8, .inl x6, .inl x4] M (fun M' => XW kX12_triangle (d + 1) (some .int) (wQi Q) 122 [some (.inr (.inr 92)), some (.inl x1), some (.inl x2), some (.inl x3), some (.inl x4), some (.inl x5), some (.inl x6), some (.inl x7), some (.inl x8)] [] M')) : XW kX12_triangle (d + 1) (some .int) (wQi Q) 111 [some (.inr (.inr 92)), some (.inl x1), some (.inl x2), some (.inl x3), some (.inl x4), some (.inl x5), some (.inl x6), some (.inl x7), some (.inl x8)] [] M := by
  refine x_aload_n rfl rfl ?_
  refine x_iload_n rfl rfl ?_
  refine x_iload rfl rfl ?_
  refine x_iload rfl rfl ?_
  refine x_iload rfl rfl ?_
  exact x_callv (args := [.inr (.inr 92), .inl x2, .inl x8, .inl x6, .inl x4]) rfl rfl rfl k
theorem uX12_triangle_122 {d : Nat} {Q : Int → yM → Prop} {M : yM} {x1 : Int} {x2 : Int} {x3 : Int} {x4 : Int} {x5 : Int} {x6 : Int} {x7 : Int} {x8 : Int} (k : XCv d 132 [.inr (.inr 92), .inl x8, .inl x1, .inl x7, .inl x4] M (fun M' => XW kX12_triangle (d + 1) (some .int) (wQi Q) 133 [some (.inr (.inr 92)), some (.inl x1), some (.inl x2), some (.inl x3), some (.inl x4), some (.inl x5), some (.inl x6), some (.inl x7), some (.inl x8)] [] M')) : XW kX12_triangle (d + 1) (some .int) (wQi Q) 122 [some (.inr (.inr 92)), some (.inl x1), some (.inl x2), some (.inl x3), some (.inl x4), some (.inl x5), some (.inl x6), some (.inl x7), some (.inl x8)] [] M := by
  refine x_aload_n rfl rfl ?_
  refine x_iload rfl rfl ?_
  refine x_iload_n rfl rfl ?_
  refine x_iload rfl rfl ?_
  refine x_iload rfl rfl ?_
  exact x_callv (args := [.inr (.inr 92), .inl x8, .inl x1, .inl x7, .inl x4]) rfl rfl rfl k
theorem uX12_triangle_133 {d : Nat} {Q : Int → yM → Prop} {M : yM} {x1 : Int} {x2 : Int} {x3 : Int} {x4 : Int} {x5 : Int} {x6 : Int} {x7 : Int} {x8 : Int} (k : XCv d 132 [.inr (.inr 92), .inl x7, .inl x6, .inl x8, .inl x4] M (fun M' => XW kX12_triangle (d + 1) (some .int) (wQi Q) 145 [some (.inr (.inr 92)), some (.inl x1), some (.inl x2), some (.inl x3), some (.inl x4), some (.inl x5), some (.inl x6), some (.inl x7), some (.inl x8)] [] M')) : XW kX12_triangle (d + 1) (some .int) (wQi Q) 133 [some (.inr (.inr 92)), some (.inl x1), some (.inl x2), some (.inl x3), some (.inl x4), some (.inl x5), some (.inl x6), some (.inl x7), some (.inl x8)] [] M := by
  refine x_aload_n rfl rfl ?_
  refine x_iload rfl rfl ?_
  refine x_iload rfl rfl ?_
  refine x_iload rfl rfl ?_
  refine x_iload rfl rfl ?_
  exact x_callv (args := [.inr (.inr 92), .inl x7, .inl x6, .inl x8, .inl x4]) rfl rfl rfl k
theorem uX12_triangle_145 {d : Nat} {Q : Int → yM → Prop} {M : yM} {x1 : Int} {x2 : Int} {x3 : Int} {x4 : Int} {x5 : Int} {x6 : Int} {x7 : Int} {x8 : Int} (k : Q x5 M) : XW kX12_triangle d (some .int) (wQi Q) 145 [some (.inr (.inr 92)), some (.inl x1), some (.inl x2), some (.inl x3), some (.inl x4), some (.inl x5), some (.inl x6), some (.inl x7), some (.inl x8)] [] M := by
  refine x_iload rfl rfl ?_
  exact x_ireturn rfl k
theorem eX12_joinOf {d : Nat} {Q : Int → yM → Prop} {M : yM} {x1 : Int} {x2 : Int}  (h : XW kX12_joinOf d (some .int) (wQi Q) 0 [some (.inr (.inr 92)), some (.inl x1), some (.inl x2), none, none, none] [] M) : XCi d 134 [.inr (.inr 92), .inl x1, .inl x2] M Q :=
  XC.ofW (Mm := (yX12_joinOf, cX12_joinOf, 6, (some .int), 13, kX12_joinOf)) rfl (rcv_ok sh92) rfl rfl h
theorem uX12_joinOf_0 {d : Nat} {Q : Int → yM → Prop} {M : yM} {x1 : Int} {x2 : Int} (k : XW kX12_joinOf d (some .int) (wQi Q) 5 [some (.inr (.inr 92)), some (.inl x1), some (.inl x2), some (.inl 0), some (.inl 0), none] [] M) : XW kX12_joinOf d (some .int) (wQi Q) 0 [some (.inr (.inr 92)), some (.inl x1), some (.inl x2), none, none, none] [] M := by
  refine x_iconst 0 rfl (by decide) ?_
  refine x_istore_n rfl (Nat.le_of_ble_eq_true rfl) rfl ?_
  refine x_iconst 0 rfl (by decide) ?_
  refine x_istore rfl (Nat.le_of_ble_eq_true rfl) rfl ?_
  exact k
theorem uX12_joinOf_5 {d : Nat} {Q : Int → yM → Prop} {M : yM} {x1 : Int} {x2 : Int} {x3 : Int} {x4 : Int} {wx5 : Option yV} (h1 : -2147483648 ≤ x4 ∧ x4 < 2147483648) (kt : x4 ≥ (ld M 92 2) → XW kX12_joinOf d (some .int) (wQi Q) 78 [some (.inr (.inr 92)), some (.inl x1), some (.inl x2), some (.inl x3), some (.inl x4), wx5] [] M) (kf : x4 < (ld M 92 2) → XW kX12_joinOf d (some .int) (wQi Q) 14 [some (.inr (.inr 92)), some (.inl x1), some (.inl x2), some (.inl x3), some (.inl x4), wx5] [] M) : XW kX12_joinOf d (some .int) (wQi Q) 5 [some (.inr (.inr 92)), some (.inl x1), some (.inl x2), some (.inl x3), some (.inl x4), wx5] [] M := by
  refine x_iload rfl rfl ?_
  refine x_aload_n rfl rfl ?_
  refine x_getI rfl sh92 rfl ?_
  exact x_icmpge rfl h1 (rng_ld _ _ _) kt kf
theorem uX12_joinOf_14 {d : Nat} {Q : Int → yM → Prop} {M : yM} {x1 : Int} {x2 : Int} {x3 : Int} {x4 : Int} {wx5 : Option yV} (k : XW kX12_joinOf d (some .int) (wQi Q) 17 [some (.inr (.inr 92)), some (.inl x1), some (.inl x2), some (.inl x3), some (.inl x4), some (.inl 0)] [] M) : XW kX12_joinOf d (some .int) (wQi Q) 14 [some (.inr (.inr 92)), some (.inl x1), some (.inl x2), some (.inl x3), some (.inl x4), wx5] [] M := by
  refine x_iconst 0 rfl (by decide) ?_
  refine x_istore rfl (Nat.le_of_ble_eq_true rfl) rfl ?_
  exact k
theorem uX12_joinOf_17 {d : Nat} {Q : Int → yM → Prop} {M : yM} {x1 : Int} {x2 : Int} {x3 : Int} {x4 : Int} {x5 : Int} (h1 : -2147483648 ≤ x5 ∧ x5 < 2147483648) (kt : x5 ≥ (ld M 92 2) → XW kX12_joinOf d (some .int) (wQi Q) 72 [some (.inr (.inr 92)), some (.inl x1), some (.inl x2), some (.inl x3), some (.inl x4), some (.inl x5)] [] M) (kf : x5 < (ld M 92 2) → XW kX12_joinOf d (some .int) (wQi Q) 26 [some (.inr (.inr 92)), some (.inl x1), some (.inl x2), some (.inl x3), some (.inl x4), some (.inl x5)] [] M) : XW kX12_joinOf d (some .int) (wQi Q) 17 [some (.inr (.inr 92)), some (.inl x1), some (.inl x2), some (.inl x3), some (.inl x4), some (.inl x5)] [] M := by
  refine x_iload rfl rfl ?_
  refine x_aload_n rfl rfl ?_
  refine x_getI rfl sh92 rfl ?_
  exact x_icmpge rfl h1 (rng_ld _ _ _) kt kf
theorem uX12_joinOf_26 {d : Nat} {Q : Int → yM → Prop} {M : yM} {x1 : Int} {x2 : Int} {x3 : Int} {x4 : Int} {x5 : Int} (kt : (yand (yshr x1 x4) 1) ≠ 1 → XW kX12_joinOf d (some .int) (wQi Q) 72 [some (.inr (.inr 92)), some (.inl x1), some (.inl x2), some (.inl x3), some (.inl x4), some (.inl x5)] [] M) (kf : (yand (yshr x1 x4) 1) = 1 → XW kX12_joinOf d (some .int) (wQi Q) 36 [some (.inr (.inr 92)), some (.inl x1), some (.inl x2), some (.inl x3), some (.inl x4), some (.inl x5)] [] M) : XW kX12_joinOf d (some .int) (wQi Q) 26 [some (.inr (.inr 92)), some (.inl x1), some (.inl x2), some (.inl x3), some (.inl x4), some (.inl x5)] [] M := by
  refine x_iload_n rfl rfl ?_
  refine x_iload rfl rfl ?_
  refine x_ishr rfl ?_
  refine x_iconst 1 rfl (by decide) ?_
  refine x_iand rfl ?_
  refine x_iconst 1 rfl (by decide) ?_
  exact x_icmpne rfl (rng_yand _ _) (by decide) kt kf
theorem uX12_joinOf_36 {d : Nat} {Q : Int → yM → Prop} {M : yM} {x1 : Int} {x2 : Int} {x3 : Int} {x4 : Int} {x5 : Int} (kt : (yand (yshr x2 x5) 1) ≠ 1 → XW kX12_joinOf d (some .int) (wQi Q) 63 [some (.inr (.inr 92)), some (.inl x1), some (.inl x2), some (.inl x3), some (.inl x4), some (.inl x5)] [.inl x3] M) (kf : (yand (yshr x2 x5) 1) = 1 → XW kX12_joinOf d (some .int) (wQi Q) 47 [some (.inr (.inr 92)), some (.inl x1), some (.inl x2), some (.inl x3), some (.inl x4), some (.inl x5)] [.inl x3] M) : XW kX12_joinOf d (some .int) (wQi Q) 36 [some (.inr (.inr 92)), some (.inl x1), some (.inl x2), some (.inl x3), some (.inl x4), some (.inl x5)] [] M := by
  refine x_iload_n rfl rfl ?_
  refine x_iload_n rfl rfl ?_
  refine x_iload rfl rfl ?_
  refine x_ishr rfl ?_
  refine x_iconst 1 rfl (by decide) ?_
  refine x_iand rfl ?_
  refine x_iconst 1 rfl (by decide) ?_
  exact x_icmpne rfl (rng_yand _ _) (by decide) kt kf
theorem uX12_joinOf_47 {d : Nat} {Q : Int → yM → Prop} {M : yM} {x1 : Int} {x2 : Int} {x3 : Int} {x4 : Int} {x5 : Int} {s0 : Int} (h1 : 0 ≤ ((8 * x4) + x5) ∧ ((8 * x4) + x5) < 64) (k : XW kX12_joinOf d (some .int) (wQi Q) 64 [some (.inr (.inr 92)), some (.inl x1), some (.inl x2), some (.inl x3), some (.inl x4), some (.inl x5)] [.inl (ld M 94 ((8 * x4) + x5)), .inl s0] M) : XW kX12_joinOf d (some .int) (wQi Q) 47 [some (.inr (.inr 92)), some (.inl x1), some (.inl x2), some (.inl x3), some (.inl x4), some (.inl x5)] [.inl s0] M := by
  refine x_aload_n rfl rfl ?_
  refine x_getR rfl sh92 rfl ?_
  refine x_bipush 8 rfl (by decide) ?_
  refine x_iload rfl rfl ?_
  refine x_imul rfl ?_
  refine x_iload rfl rfl ?_
  refine x_iadd rfl ?_
  refine x_iaload rfl ⟨sh94, Nat.le_of_ble_eq_true rfl⟩ h1 ?_
  exact x_goto rfl k
theorem uX12_joinOf_63 {d : Nat} {Q : Int → yM → Prop} {M : yM} {x1 : Int} {x2 : Int} {x3 : Int} {x4 : Int} {x5 : Int} {s0 : Int} (k : XW kX12_joinOf d (some .int) (wQi Q) 64 [some (.inr (.inr 92)), some (.inl x1), some (.inl x2), some (.inl x3), some (.inl x4), some (.inl x5)] [.inl 0, .inl s0] M) : XW kX12_joinOf d (some .int) (wQi Q) 63 [some (.inr (.inr 92)), some (.inl x1), some (.inl x2), some (.inl x3), some (.inl x4), some (.inl x5)] [.inl s0] M := by
  refine x_iconst 0 rfl (by decide) ?_
  exact k
theorem uX12_joinOf_64 {d : Nat} {Q : Int → yM → Prop} {M : yM} {x1 : Int} {x2 : Int} {x3 : Int} {x4 : Int} {x5 : Int} {s0 : Int} {s1 : Int} (k : XW kX12_joinOf d (some .int) (wQi Q) 17 [some (.inr (.inr 92)), some (.inl x1), some (.inl x2), some (.inl (yor s1 s0)), some (.inl x4), some (.inl (x5 + 1))] [] M) : XW kX12_joinOf d (some .int) (wQi Q) 64 [some (.inr (.inr 92)), some (.inl x1), some (.inl x2), some (.inl x3), some (.inl x4), some (.inl x5)] [.inl s0, .inl s1] M := by
  refine x_ior rfl ?_
  refine x_istore_n rfl (Nat.le_of_ble_eq_true rfl) rfl ?_
  refine x_iinc 1 rfl (by decide) rfl rfl ?_
  exact x_goto rfl k
theorem uX12_joinOf_72 {d : Nat} {Q : Int → yM → Prop} {M : yM} {x1 : Int} {x2 : Int} {x3 : Int} {x4 : Int} {x5 : Int} (k : XW kX12_joinOf d (some .int) (wQi Q) 5 [some (.inr (.inr 92)), some (.inl x1), some (.inl x2), some (.inl x3), some (.inl (x4 + 1)), some (.inl x5)] [] M) : XW kX12_joinOf d (some .int) (wQi Q) 72 [some (.inr (.inr 92)), some (.inl x1), some (.inl x2), some (.inl x3), some (.inl x4), some (.inl x5)] [] M := by
  refine x_iinc 1 rfl (by decide) rfl rfl ?_
  exact x_goto rfl k
theorem uX12_joinOf_78 {d : Nat} {Q : Int → yM → Prop} {M : yM} {x1 : Int} {x2 : Int} {x3 : Int} {x4 : Int} {wx5 : Option yV} (k : Q x3 M) : XW kX12_joinOf d (some .int) (wQi Q) 78 [some (.inr (.inr 92)), some (.inl x1), some (.inl x2), some (.inl x3), some (.inl x4), wx5] [] M := by
  refine x_iload_n rfl rfl ?_
  exact x_ireturn rfl k
theorem eX12_join {d : Nat} {Q : Int → yM → Prop} {M : yM} {x1 : Int} {x2 : Int}  (h : XW kX12_join d (some .int) (wQi Q) 0 [some (.inr (.inr 92)), some (.inl x1), some (.inl x2)] [] M) : XCi d 135 [.inr (.inr 92), .inl x1, .inl x2] M Q :=
  XC.ofW (Mm := (yX12_join, cX12_join, 3, (some .int), 13, kX12_join)) rfl (rcv_ok sh92) rfl rfl h
theorem uX12_join_0 {d : Nat} {Q : Int → yM → Prop} {M : yM} {x1 : Int} {x2 : Int} (k : ∀ M', M' = (put M 92 0 0) → XW kX12_join d (some .int) (wQi Q) 5 [some (.inr (.inr 92)), some (.inl x1), some (.inl x2)] [] M') : XW kX12_join d (some .int) (wQi Q) 0 [some (.inr (.inr 92)), some (.inl x1), some (.inl x2)] [] M := by
  refine x_aload_n rfl rfl ?_
  refine x_iconst 0 rfl (by decide) ?_
  refine x_putI rfl rfl sh92 rfl ?_
  exact k _ rfl
theorem uX12_join_5 {d : Nat} {Q : Int → yM → Prop} {M : yM} {x1 : Int} {x2 : Int} (k : XCi d 123 [.inr (.inr 92), .inl x1] M (fun v M' => XW kX12_join (d + 1) (some .int) (wQi Q) 10 [some (.inr (.inr 92)), some (.inl x1), some (.inl x2)] [.inl v] M')) : XW kX12_join (d + 1) (some .int) (wQi Q) 5 [some (.inr (.inr 92)), some (.inl x1), some (.inl x2)] [] M := by
  refine x_aload_n rfl rfl ?_
  refine x_iload_n rfl rfl ?_
  exact x_calli (args := [.inr (.inr 92), .inl x1]) rfl rfl rfl k
theorem uX12_join_10 {d : Nat} {Q : Int → yM → Prop} {M : yM} {x1 : Int} {x2 : Int} {s0 : Int} (h1 : -2147483648 ≤ s0 ∧ s0 < 2147483648) (kt : s0 = 0 → XW kX12_join d (some .int) (wQi Q) 30 [some (.inr (.inr 92)), some (.inl x1), some (.inl x2)] [] M) (kf : s0 ≠ 0 → XW kX12_join d (some .int) (wQi Q) 13 [some (.inr (.inr 92)), some (.inl x1), some (.inl x2)] [] M) : XW kX12_join d (some .int) (wQi Q) 10 [some (.inr (.inr 92)), some (.inl x1), some (.inl x2)] [.inl s0] M := by
  exact x_ifeq rfl h1 kt kf
theorem uX12_join_13 {d : Nat} {Q : Int → yM → Prop} {M : yM} {x1 : Int} {x2 : Int} (k : XCi d 123 [.inr (.inr 92), .inl x2] M (fun v M' => XW kX12_join (d + 1) (some .int) (wQi Q) 18 [some (.inr (.inr 92)), some (.inl x1), some (.inl x2)] [.inl v] M')) : XW kX12_join (d + 1) (some .int) (wQi Q) 13 [some (.inr (.inr 92)), some (.inl x1), some (.inl x2)] [] M := by
  refine x_aload_n rfl rfl ?_
  refine x_iload_n rfl rfl ?_
  exact x_calli (args := [.inr (.inr 92), .inl x2]) rfl rfl rfl k
theorem uX12_join_18 {d : Nat} {Q : Int → yM → Prop} {M : yM} {x1 : Int} {x2 : Int} {s0 : Int} (h1 : -2147483648 ≤ s0 ∧ s0 < 2147483648) (kt : s0 = 0 → XW kX12_join d (some .int) (wQi Q) 30 [some (.inr (.inr 92)), some (.inl x1), some (.inl x2)] [] M) (kf : s0 ≠ 0 → XW kX12_join d (some .int) (wQi Q) 21 [some (.inr (.inr 92)), some (.inl x1), some (.inl x2)] [] M) : XW kX12_join d (some .int) (wQi Q) 18 [some (.inr (.inr 92)), some (.inl x1), some (.inl x2)] [.inl s0] M := by
  exact x_ifeq rfl h1 kt kf
theorem uX12_join_21 {d : Nat} {Q : Int → yM → Prop} {M : yM} {x1 : Int} {x2 : Int} (k : XCi d 134 [.inr (.inr 92), .inl x1, .inl x2] M (fun v M' => XW kX12_join (d + 1) (some .int) (wQi Q) 27 [some (.inr (.inr 92)), some (.inl x1), some (.inl x2)] [.inl v] M')) : XW kX12_join (d + 1) (some .int) (wQi Q) 21 [some (.inr (.inr 92)), some (.inl x1), some (.inl x2)] [] M := by
  refine x_aload_n rfl rfl ?_
  refine x_iload_n rfl rfl ?_
  refine x_iload_n rfl rfl ?_
  exact x_calli (args := [.inr (.inr 92), .inl x1, .inl x2]) rfl rfl rfl k
theorem uX12_join_27 {d : Nat} {Q : Int → yM → Prop} {M : yM} {x1 : Int} {x2 : Int} {s0 : Int} (k : XW kX12_join d (some .int) (wQi Q) 31 [some (.inr (.inr 92)), some (.inl x1), some (.inl x2)] [.inl s0] M) : XW kX12_join d (some .int) (wQi Q) 27 [some (.inr (.inr 92)), some (.inl x1), some (.inl x2)] [.inl s0] M := by
  exact x_goto rfl k
theorem uX12_join_30 {d : Nat} {Q : Int → yM → Prop} {M : yM} {x1 : Int} {x2 : Int} (k : XW kX12_join d (some .int) (wQi Q) 31 [some (.inr (.inr 92)), some (.inl x1), some (.inl x2)] [.inl (-1)] M) : XW kX12_join d (some .int) (wQi Q) 30 [some (.inr (.inr 92)), some (.inl x1), some (.inl x2)] [] M := by
  refine x_iconst (-1) rfl (by decide) ?_
  exact k
theorem uX12_join_31 {d : Nat} {Q : Int → yM → Prop} {M : yM} {x1 : Int} {x2 : Int} {s0 : Int} (k : Q s0 M) : XW kX12_join d (some .int) (wQi Q) 31 [some (.inr (.inr 92)), some (.inl x1), some (.inl x2)] [.inl s0] M := by
  exact x_ireturn rfl k
theorem eX12_turnedOf {d : Nat} {Q : Int → yM → Prop} {M : yM} {x1 : Int}  (h : XW kX12_turnedOf d (some .int) (wQi Q) 0 [some (.inr (.inr 92)), some (.inl x1), none, none] [] M) : XCi d 136 [.inr (.inr 92), .inl x1] M Q :=
  XC.ofW (Mm := (yX12_turnedOf, cX12_turnedOf, 4, (some .int), 13, kX12_turnedOf)) rfl (rcv_ok sh92) rfl rfl h
theorem uX12_turnedOf_0 {d : Nat} {Q : Int → yM → Prop} {M : yM} {x1 : Int} (k : XW kX12_turnedOf d (some .int) (wQi Q) 4 [some (.inr (.inr 92)), some (.inl x1), some (.inl 0), some (.inl 0)] [] M) : XW kX12_turnedOf d (some .int) (wQi Q) 0 [some (.inr (.inr 92)), some (.inl x1), none, none] [] M := by
  refine x_iconst 0 rfl (by decide) ?_
  refine x_istore_n rfl (Nat.le_of_ble_eq_true rfl) rfl ?_
  refine x_iconst 0 rfl (by decide) ?_
  refine x_istore_n rfl (Nat.le_of_ble_eq_true rfl) rfl ?_
  exact k
theorem uX12_turnedOf_4 {d : Nat} {Q : Int → yM → Prop} {M : yM} {x1 : Int} {x2 : Int} {x3 : Int} (h1 : -2147483648 ≤ x3 ∧ x3 < 2147483648) (kt : x3 ≥ (ld M 92 2) → XW kX12_turnedOf d (some .int) (wQi Q) 33 [some (.inr (.inr 92)), some (.inl x1), some (.inl x2), some (.inl x3)] [] M) (kf : x3 < (ld M 92 2) → XW kX12_turnedOf d (some .int) (wQi Q) 12 [some (.inr (.inr 92)), some (.inl x1), some (.inl x2), some (.inl x3)] [] M) : XW kX12_turnedOf d (some .int) (wQi Q) 4 [some (.inr (.inr 92)), some (.inl x1), some (.inl x2), some (.inl x3)] [] M := by
  refine x_iload_n rfl rfl ?_
  refine x_aload_n rfl rfl ?_
  refine x_getI rfl sh92 rfl ?_
  exact x_icmpge rfl h1 (rng_ld _ _ _) kt kf
theorem uX12_turnedOf_12 {d : Nat} {Q : Int → yM → Prop} {M : yM} {x1 : Int} {x2 : Int} {x3 : Int} (h1 : 0 ≤ x3 ∧ x3 < 8) (k : XW kX12_turnedOf d (some .int) (wQi Q) 4 [some (.inr (.inr 92)), some (.inl x1), some (.inl (yor x2 (yshl (yand (yshr x1 x3) 1) (ld M 93 x3)))), some (.inl (x3 + 1))] [] M) : XW kX12_turnedOf d (some .int) (wQi Q) 12 [some (.inr (.inr 92)), some (.inl x1), some (.inl x2), some (.inl x3)] [] M := by
  refine x_iload_n rfl rfl ?_
  refine x_iload_n rfl rfl ?_
  refine x_iload_n rfl rfl ?_
  refine x_ishr rfl ?_
  refine x_iconst 1 rfl (by decide) ?_
  refine x_iand rfl ?_
  refine x_aload_n rfl rfl ?_
  refine x_getR rfl sh92 rfl ?_
  refine x_iload_n rfl rfl ?_
  refine x_iaload rfl ⟨sh93, Nat.le_of_ble_eq_true rfl⟩ h1 ?_
  refine x_ishl rfl ?_
  refine x_ior rfl ?_
  refine x_istore_n rfl (Nat.le_of_ble_eq_true rfl) rfl ?_
  refine x_iinc 1 rfl (by decide) rfl rfl ?_
  exact x_goto rfl k
theorem uX12_turnedOf_33 {d : Nat} {Q : Int → yM → Prop} {M : yM} {x1 : Int} {x2 : Int} {x3 : Int} (k : Q x2 M) : XW kX12_turnedOf d (some .int) (wQi Q) 33 [some (.inr (.inr 92)), some (.inl x1), some (.inl x2), some (.inl x3)] [] M := by
  refine x_iload_n rfl rfl ?_
  exact x_ireturn rfl k
theorem eX12_turned {d : Nat} {Q : Int → yM → Prop} {M : yM} {x1 : Int}  (h : XW kX12_turned d (some .int) (wQi Q) 0 [some (.inr (.inr 92)), some (.inl x1)] [] M) : XCi d 137 [.inr (.inr 92), .inl x1] M Q :=
  XC.ofW (Mm := (yX12_turned, cX12_turned, 2, (some .int), 13, kX12_turned)) rfl (rcv_ok sh92) rfl rfl h
theorem uX12_turned_0 {d : Nat} {Q : Int → yM → Prop} {M : yM} {x1 : Int} (k : ∀ M', M' = (put M 92 0 0) → XW kX12_turned d (some .int) (wQi Q) 5 [some (.inr (.inr 92)), some (.inl x1)] [] M') : XW kX12_turned d (some .int) (wQi Q) 0 [some (.inr (.inr 92)), some (.inl x1)] [] M := by
  refine x_aload_n rfl rfl ?_
  refine x_iconst 0 rfl (by decide) ?_
  refine x_putI rfl rfl sh92 rfl ?_
  exact k _ rfl
theorem uX12_turned_5 {d : Nat} {Q : Int → yM → Prop} {M : yM} {x1 : Int} (k : XCi d 123 [.inr (.inr 92), .inl x1] M (fun v M' => XW kX12_turned (d + 1) (some .int) (wQi Q) 10 [some (.inr (.inr 92)), some (.inl x1)] [.inl v] M')) : XW kX12_turned (d + 1) (some .int) (wQi Q) 5 [some (.inr (.inr 92)), some (.inl x1)] [] M := by
  refine x_aload_n rfl rfl ?_
  refine x_iload_n rfl rfl ?_
  exact x_calli (args := [.inr (.inr 92), .inl x1]) rfl rfl rfl k
theorem uX12_turned_10 {d : Nat} {Q : Int → yM → Prop} {M : yM} {x1 : Int} {s0 : Int} (h1 : -2147483648 ≤ s0 ∧ s0 < 2147483648) (kt : s0 = 0 → XW kX12_turned d (some .int) (wQi Q) 21 [some (.inr (.inr 92)), some (.inl x1)] [] M) (kf : s0 ≠ 0 → XW kX12_turned d (some .int) (wQi Q) 13 [some (.inr (.inr 92)), some (.inl x1)] [] M) : XW kX12_turned d (some .int) (wQi Q) 10 [some (.inr (.inr 92)), some (.inl x1)] [.inl s0] M := by
  exact x_ifeq rfl h1 kt kf
theorem uX12_turned_13 {d : Nat} {Q : Int → yM → Prop} {M : yM} {x1 : Int} (k : XCi d 136 [.inr (.inr 92), .inl x1] M (fun v M' => XW kX12_turned (d + 1) (some .int) (wQi Q) 18 [some (.inr (.inr 92)), some (.inl x1)] [.inl v] M')) : XW kX12_turned (d + 1) (some .int) (wQi Q) 13 [some (.inr (.inr 92)), some (.inl x1)] [] M := by
  refine x_aload_n rfl rfl ?_
  refine x_iload_n rfl rfl ?_
  exact x_calli (args := [.inr (.inr 92), .inl x1]) rfl rfl rfl k
theorem uX12_turned_18 {d : Nat} {Q : Int → yM → Prop} {M : yM} {x1 : Int} {s0 : Int} (k : XW kX12_turned d (some .int) (wQi Q) 22 [some (.inr (.inr 92)), some (.inl x1)] [.inl s0] M) : XW kX12_turned d (some .int) (wQi Q) 18 [some (.inr (.inr 92)), some (.inl x1)] [.inl s0] M := by
  exact x_goto rfl k
theorem uX12_turned_21 {d : Nat} {Q : Int → yM → Prop} {M : yM} {x1 : Int} (k : XW kX12_turned d (some .int) (wQi Q) 22 [some (.inr (.inr 92)), some (.inl x1)] [.inl (-1)] M) : XW kX12_turned d (some .int) (wQi Q) 21 [some (.inr (.inr 92)), some (.inl x1)] [] M := by
  refine x_iconst (-1) rfl (by decide) ?_
  exact k
theorem uX12_turned_22 {d : Nat} {Q : Int → yM → Prop} {M : yM} {x1 : Int} {s0 : Int} (k : Q s0 M) : XW kX12_turned d (some .int) (wQi Q) 22 [some (.inr (.inr 92)), some (.inl x1)] [.inl s0] M := by
  exact x_ireturn rfl k
theorem eX12_fault {d : Nat} {Q : Int → yM → Prop} {M : yM}   (h : XW kX12_fault d (some .int) (wQi Q) 0 [some (.inr (.inr 92)), none, none, none] [] M) : XCi d 138 [.inr (.inr 92)] M Q :=
  XC.ofW (Mm := (yX12_fault, cX12_fault, 4, (some .int), 13, kX12_fault)) rfl (rcv_ok sh92) rfl rfl h
theorem uX12_fault_0 {d : Nat} {Q : Int → yM → Prop} {M : yM}  (k : ∀ M', M' = (put M 92 0 0) → XW kX12_fault d (some .int) (wQi Q) 5 [some (.inr (.inr 92)), none, none, none] [] M') : XW kX12_fault d (some .int) (wQi Q) 0 [some (.inr (.inr 92)), none, none, none] [] M := by
  refine x_aload_n rfl rfl ?_
  refine x_iconst 0 rfl (by decide) ?_
  refine x_putI rfl rfl sh92 rfl ?_
  exact k _ rfl
theorem uX12_fault_5 {d : Nat} {Q : Int → yM → Prop} {M : yM}  (k : XW kX12_fault d (some .int) (wQi Q) 7 [some (.inr (.inr 92)), some (.inl 0), none, none] [] M) : XW kX12_fault d (some .int) (wQi Q) 5 [some (.inr (.inr 92)), none, none, none] [] M := by
  refine x_iconst 0 rfl (by decide) ?_
  refine x_istore_n rfl (Nat.le_of_ble_eq_true rfl) rfl ?_
  exact k
theorem uX12_fault_7 {d : Nat} {Q : Int → yM → Prop} {M : yM} {x1 : Int} {wx2 : Option yV} {wx3 : Option yV} (h1 : -2147483648 ≤ x1 ∧ x1 < 2147483648) (kt : x1 ≥ (ld M 92 2) → XW kX12_fault d (some .int) (wQi Q) 104 [some (.inr (.inr 92)), some (.inl x1), wx2, wx3] [] M) (kf : x1 < (ld M 92 2) → XW kX12_fault d (some .int) (wQi Q) 15 [some (.inr (.inr 92)), some (.inl x1), wx2, wx3] [] M) : XW kX12_fault d (some .int) (wQi Q) 7 [some (.inr (.inr 92)), some (.inl x1), wx2, wx3] [] M := by
  refine x_iload_n rfl rfl ?_
  refine x_aload_n rfl rfl ?_
  refine x_getI rfl sh92 rfl ?_
  exact x_icmpge rfl h1 (rng_ld _ _ _) kt kf
theorem uX12_fault_15 {d : Nat} {Q : Int → yM → Prop} {M : yM} {x1 : Int} {wx2 : Option yV} {wx3 : Option yV} (k : XW kX12_fault d (some .int) (wQi Q) 17 [some (.inr (.inr 92)), some (.inl x1), some (.inl 0), wx3] [] M) : XW kX12_fault d (some .int) (wQi Q) 15 [some (.inr (.inr 92)), some (.inl x1), wx2, wx3] [] M := by
  refine x_iconst 0 rfl (by decide) ?_
  refine x_istore_n rfl (Nat.le_of_ble_eq_true rfl) rfl ?_
  exact k
theorem uX12_fault_17 {d : Nat} {Q : Int → yM → Prop} {M : yM} {x1 : Int} {x2 : Int} {wx3 : Option yV} (h1 : -2147483648 ≤ x2 ∧ x2 < 2147483648) (kt : x2 ≥ (ld M 92 2) → XW kX12_fault d (some .int) (wQi Q) 98 [some (.inr (.inr 92)), some (.inl x1), some (.inl x2), wx3] [] M) (kf : x2 < (ld M 92 2) → XW kX12_fault d (some .int) (wQi Q) 25 [some (.inr (.inr 92)), some (.inl x1), some (.inl x2), wx3] [] M) : XW kX12_fault d (some .int) (wQi Q) 17 [some (.inr (.inr 92)), some (.inl x1), some (.inl x2), wx3] [] M := by
  refine x_iload_n rfl rfl ?_
  refine x_aload_n rfl rfl ?_
  refine x_getI rfl sh92 rfl ?_
  exact x_icmpge rfl h1 (rng_ld _ _ _) kt kf
theorem uX12_fault_25 {d : Nat} {Q : Int → yM → Prop} {M : yM} {x1 : Int} {x2 : Int} {wx3 : Option yV} (k : XW kX12_fault d (some .int) (wQi Q) 27 [some (.inr (.inr 92)), some (.inl x1), some (.inl x2), some (.inl 0)] [] M) : XW kX12_fault d (some .int) (wQi Q) 25 [some (.inr (.inr 92)), some (.inl x1), some (.inl x2), wx3] [] M := by
  refine x_iconst 0 rfl (by decide) ?_
  refine x_istore_n rfl (Nat.le_of_ble_eq_true rfl) rfl ?_
  exact k
theorem uX12_fault_27 {d : Nat} {Q : Int → yM → Prop} {M : yM} {x1 : Int} {x2 : Int} {x3 : Int} (h1 : -2147483648 ≤ x3 ∧ x3 < 2147483648) (kt : x3 ≥ (ld M 92 2) → XW kX12_fault d (some .int) (wQi Q) 92 [some (.inr (.inr 92)), some (.inl x1), some (.inl x2), some (.inl x3)] [] M) (kf : x3 < (ld M 92 2) → XW kX12_fault d (some .int) (wQi Q) 35 [some (.inr (.inr 92)), some (.inl x1), some (.inl x2), some (.inl x3)] [] M) : XW kX12_fault d (some .int) (wQi Q) 27 [some (.inr (.inr 92)), some (.inl x1), some (.inl x2), some (.inl x3)] [] M := by
  refine x_iload_n rfl rfl ?_
  refine x_aload_n rfl rfl ?_
  refine x_getI rfl sh92 rfl ?_
  exact x_icmpge rfl h1 (rng_ld _ _ _) kt kf
theorem uX12_fault_35 {d : Nat} {Q : Int → yM → Prop} {M : yM} {x1 : Int} {x2 : Int} {x3 : Int} (h1 : 0 ≤ ((8 * x1) + x2) ∧ ((8 * x1) + x2) < 64) (k : XCi d 134 [.inr (.inr 92), .inl (ld M 94 ((8 * x1) + x2)), .inl (yshl 1 x3)] M (fun v M' => XW kX12_fault (d + 1) (some .int) (wQi Q) 53 [some (.inr (.inr 92)), some (.inl x1), some (.inl x2), some (.inl x3)] [.inl v] M')) : XW kX12_fault (d + 1) (some .int) (wQi Q) 35 [some (.inr (.inr 92)), some (.inl x1), some (.inl x2), some (.inl x3)] [] M := by
  refine x_aload_n rfl rfl ?_
  refine x_aload_n rfl rfl ?_
  refine x_getR rfl sh92 rfl ?_
  refine x_bipush 8 rfl (by decide) ?_
  refine x_iload_n rfl rfl ?_
  refine x_imul rfl ?_
  refine x_iload_n rfl rfl ?_
  refine x_iadd rfl ?_
  refine x_iaload rfl ⟨sh94, Nat.le_of_ble_eq_true rfl⟩ h1 ?_
  refine x_iconst 1 rfl (by decide) ?_
  refine x_iload_n rfl rfl ?_
  refine x_ishl rfl ?_
  exact x_calli (args := [.inr (.inr 92), .inl (ld M 94 ((8 * x1) + x2)), .inl (yshl 1 x3)]) rfl rfl rfl k
theorem uX12_fault_53 {d : Nat} {Q : Int → yM → Prop} {M : yM} {x1 : Int} {x2 : Int} {x3 : Int} {s0 : Int} (h1 : 0 ≤ ((8 * x2) + x3) ∧ ((8 * x2) + x3) < 64) (k : XCi d 134 [.inr (.inr 92), .inl (yshl 1 x1), .inl (ld M 94 ((8 * x2) + x3))] M (fun v M' => XW kX12_fault (d + 1) (some .int) (wQi Q) 71 [some (.inr (.inr 92)), some (.inl x1), some (.inl x2), some (.inl x3)] [.inl v, .inl s0] M')) : XW kX12_fault (d + 1) (some .int) (wQi Q) 53 [some (.inr (.inr 92)), some (.inl x1), some (.inl x2), some (.inl x3)] [.inl s0] M := by
  refine x_aload_n rfl rfl ?_
  refine x_iconst 1 rfl (by decide) ?_
  refine x_iload_n rfl rfl ?_
  refine x_ishl rfl ?_
  refine x_aload_n rfl rfl ?_
  refine x_getR rfl sh92 rfl ?_
  refine x_bipush 8 rfl (by decide) ?_
  refine x_iload_n rfl rfl ?_
  refine x_imul rfl ?_
  refine x_iload_n rfl rfl ?_
  refine x_iadd rfl ?_
  refine x_iaload rfl ⟨sh94, Nat.le_of_ble_eq_true rfl⟩ h1 ?_
  exact x_calli (args := [.inr (.inr 92), .inl (yshl 1 x1), .inl (ld M 94 ((8 * x2) + x3))]) rfl rfl rfl k
theorem uX12_fault_71 {d : Nat} {Q : Int → yM → Prop} {M : yM} {x1 : Int} {x2 : Int} {x3 : Int} {s0 : Int} {s1 : Int} (h1 : -2147483648 ≤ s1 ∧ s1 < 2147483648) (h2 : -2147483648 ≤ s0 ∧ s0 < 2147483648) (kt : s1 = s0 → XW kX12_fault d (some .int) (wQi Q) 86 [some (.inr (.inr 92)), some (.inl x1), some (.inl x2), some (.inl x3)] [] M) (kf : s1 ≠ s0 → XW kX12_fault d (some .int) (wQi Q) 74 [some (.inr (.inr 92)), some (.inl x1), some (.inl x2), some (.inl x3)] [] M) : XW kX12_fault d (some .int) (wQi Q) 71 [some (.inr (.inr 92)), some (.inl x1), some (.inl x2), some (.inl x3)] [.inl s0, .inl s1] M := by
  exact x_icmpeq rfl h1 h2 kt kf
theorem uX12_fault_74 {d : Nat} {Q : Int → yM → Prop} {M : yM} {x1 : Int} {x2 : Int} {x3 : Int} (k : Q (((64 * x1) + (8 * x2)) + x3) M) : XW kX12_fault d (some .int) (wQi Q) 74 [some (.inr (.inr 92)), some (.inl x1), some (.inl x2), some (.inl x3)] [] M := by
  refine x_bipush 64 rfl (by decide) ?_
  refine x_iload_n rfl rfl ?_
  refine x_imul rfl ?_
  refine x_bipush 8 rfl (by decide) ?_
  refine x_iload_n rfl rfl ?_
  refine x_imul rfl ?_
  refine x_iadd rfl ?_
  refine x_iload_n rfl rfl ?_
  refine x_iadd rfl ?_
  exact x_ireturn rfl k
theorem uX12_fault_86 {d : Nat} {Q : Int → yM → Prop} {M : yM} {x1 : Int} {x2 : Int} {x3 : Int} (k : XW kX12_fault d (some .int) (wQi Q) 27 [some (.inr (.inr 92)), some (.inl x1), some (.inl x2), some (.inl (x3 + 1))] [] M) : XW kX12_fault d (some .int) (wQi Q) 86 [some (.inr (.inr 92)), some (.inl x1), some (.inl x2), some (.inl x3)] [] M := by
  refine x_iinc 1 rfl (by decide) rfl rfl ?_
  exact x_goto rfl k
theorem uX12_fault_92 {d : Nat} {Q : Int → yM → Prop} {M : yM} {x1 : Int} {x2 : Int} {x3 : Int} (k : XW kX12_fault d (some .int) (wQi Q) 17 [some (.inr (.inr 92)), some (.inl x1), some (.inl (x2 + 1)), some (.inl x3)] [] M) : XW kX12_fault d (some .int) (wQi Q) 92 [some (.inr (.inr 92)), some (.inl x1), some (.inl x2), some (.inl x3)] [] M := by
  refine x_iinc 1 rfl (by decide) rfl rfl ?_
  exact x_goto rfl k
theorem uX12_fault_98 {d : Nat} {Q : Int → yM → Prop} {M : yM} {x1 : Int} {x2 : Int} {wx3 : Option yV} (k : XW kX12_fault d (some .int) (wQi Q) 7 [some (.inr (.inr 92)), some (.inl (x1 + 1)), some (.inl x2), wx3] [] M) : XW kX12_fault d (some .int) (wQi Q) 98 [some (.inr (.inr 92)), some (.inl x1), some (.inl x2), wx3] [] M := by
  refine x_iinc 1 rfl (by decide) rfl rfl ?_
  exact x_goto rfl k
theorem uX12_fault_104 {d : Nat} {Q : Int → yM → Prop} {M : yM} {x1 : Int} {wx2 : Option yV} {wx3 : Option yV} (k : Q (-9) M) : XW kX12_fault d (some .int) (wQi Q) 104 [some (.inr (.inr 92)), some (.inl x1), wx2, wx3] [] M := by
  refine x_bipush (-9) rfl (by decide) ?_
  exact x_ireturn rfl k
theorem eX12_becomes {d : Nat} {Q : Int → yM → Prop} {M : yM} {x1 : Int}  (h : XW kX12_becomes d (some .int) (wQi Q) 0 [some (.inr (.inr 92)), some (.inl x1), none] [] M) : XCi d 139 [.inr (.inr 92), .inl x1] M Q :=
  XC.ofW (Mm := (yX12_becomes, cX12_becomes, 3, (some .int), 13, kX12_becomes)) rfl (rcv_ok sh92) rfl rfl h
theorem uX12_becomes_0 {d : Nat} {Q : Int → yM → Prop} {M : yM} {x1 : Int} (k : ∀ M', M' = (put M 92 2 x1) → XW kX12_becomes d (some .int) (wQi Q) 5 [some (.inr (.inr 92)), some (.inl x1), none] [] M') : XW kX12_becomes d (some .int) (wQi Q) 0 [some (.inr (.inr 92)), some (.inl x1), none] [] M := by
  refine x_aload_n rfl rfl ?_
  refine x_iload_n rfl rfl ?_
  refine x_putI rfl rfl sh92 rfl ?_
  exact k _ rfl
theorem uX12_becomes_5 {d : Nat} {Q : Int → yM → Prop} {M : yM} {x1 : Int} (k : XW kX12_becomes d (some .int) (wQi Q) 7 [some (.inr (.inr 92)), some (.inl x1), some (.inl 0)] [] M) : XW kX12_becomes d (some .int) (wQi Q) 5 [some (.inr (.inr 92)), some (.inl x1), none] [] M := by
  refine x_iconst 0 rfl (by decide) ?_
  refine x_istore_n rfl (Nat.le_of_ble_eq_true rfl) rfl ?_
  exact k
theorem uX12_becomes_7 {d : Nat} {Q : Int → yM → Prop} {M : yM} {x1 : Int} {x2 : Int} (h1 : -2147483648 ≤ x2 ∧ x2 < 2147483648) (kt : x2 ≥ 8 → XW kX12_becomes d (some .int) (wQi Q) 43 [some (.inr (.inr 92)), some (.inl x1), some (.inl x2)] [] M) (kf : x2 < 8 → XW kX12_becomes d (some .int) (wQi Q) 13 [some (.inr (.inr 92)), some (.inl x1), some (.inl x2)] [] M) : XW kX12_becomes d (some .int) (wQi Q) 7 [some (.inr (.inr 92)), some (.inl x1), some (.inl x2)] [] M := by
  refine x_iload_n rfl rfl ?_
  refine x_bipush 8 rfl (by decide) ?_
  exact x_icmpge rfl h1 (by decide) kt kf
theorem uX12_becomes_13 {d : Nat} {Q : Int → yM → Prop} {M : yM} {x1 : Int} {x2 : Int} (h1 : -2147483648 ≤ x2 ∧ x2 < 2147483648) (kt : x2 ≥ (ld M 92 2) → XW kX12_becomes d (some .int) (wQi Q) 35 [some (.inr (.inr 92)), some (.inl x1), some (.inl x2)] [.inl x2, .inr (.inr 93)] M) (kf : x2 < (ld M 92 2) → XW kX12_becomes d (some .int) (wQi Q) 26 [some (.inr (.inr 92)), some (.inl x1), some (.inl x2)] [.inl x2, .inr (.inr 93)] M) : XW kX12_becomes d (some .int) (wQi Q) 13 [some (.inr (.inr 92)), some (.inl x1), some (.inl x2)] [] M := by
  refine x_aload_n rfl rfl ?_
  refine x_getR rfl sh92 rfl ?_
  refine x_iload_n rfl rfl ?_
  refine x_iload_n rfl rfl ?_
  refine x_aload_n rfl rfl ?_
  refine x_getI rfl sh92 rfl ?_
  exact x_icmpge rfl h1 (rng_ld _ _ _) kt kf
theorem uX12_becomes_26 {d : Nat} {Q : Int → yM → Prop} {M : yM} {x1 : Int} {x2 : Int} {s0 : Int} (h1 : 0 ≤ x2 ∧ x2 < 8) (k : XW kX12_becomes d (some .int) (wQi Q) 36 [some (.inr (.inr 92)), some (.inl x1), some (.inl x2)] [.inl (ld M 97 x2), .inl s0, .inr (.inr 93)] M) : XW kX12_becomes d (some .int) (wQi Q) 26 [some (.inr (.inr 92)), some (.inl x1), some (.inl x2)] [.inl s0, .inr (.inr 93)] M := by
  refine x_aload_n rfl rfl ?_
  refine x_getR rfl sh92 rfl ?_
  refine x_iload_n rfl rfl ?_
  refine x_iaload rfl ⟨sh97, Nat.le_of_ble_eq_true rfl⟩ h1 ?_
  exact x_goto rfl k
theorem uX12_becomes_35 {d : Nat} {Q : Int → yM → Prop} {M : yM} {x1 : Int} {x2 : Int} {s0 : Int} (k : XW kX12_becomes d (some .int) (wQi Q) 36 [some (.inr (.inr 92)), some (.inl x1), some (.inl x2)] [.inl x2, .inl s0, .inr (.inr 93)] M) : XW kX12_becomes d (some .int) (wQi Q) 35 [some (.inr (.inr 92)), some (.inl x1), some (.inl x2)] [.inl s0, .inr (.inr 93)] M := by
  refine x_iload_n rfl rfl ?_
  exact k
theorem uX12_becomes_36 {d : Nat} {Q : Int → yM → Prop} {M : yM} {x1 : Int} {x2 : Int} {s0 : Int} {s1 : Int} (h1 : 0 ≤ s1 ∧ s1 < 8) (k : ∀ M', M' = (put M 93 s1 s0) → XW kX12_becomes d (some .int) (wQi Q) 37 [some (.inr (.inr 92)), some (.inl x1), some (.inl x2)] [] M') : XW kX12_becomes d (some .int) (wQi Q) 36 [some (.inr (.inr 92)), some (.inl x1), some (.inl x2)] [.inl s0, .inl s1, .inr (.inr 93)] M := by
  refine x_iastore rfl ⟨sh93, Nat.le_of_ble_eq_true rfl⟩ h1  ?_
  exact k _ rfl
theorem uX12_becomes_37 {d : Nat} {Q : Int → yM → Prop} {M : yM} {x1 : Int} {x2 : Int} (k : XW kX12_becomes d (some .int) (wQi Q) 7 [some (.inr (.inr 92)), some (.inl x1), some (.inl (x2 + 1))] [] M) : XW kX12_becomes d (some .int) (wQi Q) 37 [some (.inr (.inr 92)), some (.inl x1), some (.inl x2)] [] M := by
  refine x_iinc 1 rfl (by decide) rfl rfl ?_
  exact x_goto rfl k
theorem uX12_becomes_43 {d : Nat} {Q : Int → yM → Prop} {M : yM} {x1 : Int} {x2 : Int} (k : XW kX12_becomes d (some .int) (wQi Q) 45 [some (.inr (.inr 92)), some (.inl x1), some (.inl 0)] [] M) : XW kX12_becomes d (some .int) (wQi Q) 43 [some (.inr (.inr 92)), some (.inl x1), some (.inl x2)] [] M := by
  refine x_iconst 0 rfl (by decide) ?_
  refine x_istore_n rfl (Nat.le_of_ble_eq_true rfl) rfl ?_
  exact k
theorem uX12_becomes_45 {d : Nat} {Q : Int → yM → Prop} {M : yM} {x1 : Int} {x2 : Int} (h1 : -2147483648 ≤ x2 ∧ x2 < 2147483648) (kt : x2 ≥ 64 → XW kX12_becomes d (some .int) (wQi Q) 69 [some (.inr (.inr 92)), some (.inl x1), some (.inl x2)] [] M) (kf : x2 < 64 → XW kX12_becomes d (some .int) (wQi Q) 51 [some (.inr (.inr 92)), some (.inl x1), some (.inl x2)] [] M) : XW kX12_becomes d (some .int) (wQi Q) 45 [some (.inr (.inr 92)), some (.inl x1), some (.inl x2)] [] M := by
  refine x_iload_n rfl rfl ?_
  refine x_bipush 64 rfl (by decide) ?_
  exact x_icmpge rfl h1 (by decide) kt kf
theorem uX12_becomes_51 {d : Nat} {Q : Int → yM → Prop} {M : yM} {x1 : Int} {x2 : Int} (h1 : 0 ≤ x2 ∧ x2 < 64) (h2 : 0 ≤ x2 ∧ x2 < 64) (k : ∀ M', M' = (put M 94 x2 (ld M 98 x2)) → XW kX12_becomes d (some .int) (wQi Q) 63 [some (.inr (.inr 92)), some (.inl x1), some (.inl x2)] [] M') : XW kX12_becomes d (some .int) (wQi Q) 51 [some (.inr (.inr 92)), some (.inl x1), some (.inl x2)] [] M := by
  refine x_aload_n rfl rfl ?_
  refine x_getR rfl sh92 rfl ?_
  refine x_iload_n rfl rfl ?_
  refine x_aload_n rfl rfl ?_
  refine x_getR rfl sh92 rfl ?_
  refine x_iload_n rfl rfl ?_
  refine x_iaload rfl ⟨sh98, Nat.le_of_ble_eq_true rfl⟩ h1 ?_
  refine x_iastore rfl ⟨sh94, Nat.le_of_ble_eq_true rfl⟩ h2  ?_
  exact k _ rfl
theorem uX12_becomes_63 {d : Nat} {Q : Int → yM → Prop} {M : yM} {x1 : Int} {x2 : Int} (k : XW kX12_becomes d (some .int) (wQi Q) 45 [some (.inr (.inr 92)), some (.inl x1), some (.inl (x2 + 1))] [] M) : XW kX12_becomes d (some .int) (wQi Q) 63 [some (.inr (.inr 92)), some (.inl x1), some (.inl x2)] [] M := by
  refine x_iinc 1 rfl (by decide) rfl rfl ?_
  exact x_goto rfl k
theorem uX12_becomes_69 {d : Nat} {Q : Int → yM → Prop} {M : yM} {x1 : Int} {x2 : Int} (k : XCv d 127 [.inr (.inr 92)] M (fun M' => XW kX12_becomes (d + 1) (some .int) (wQi Q) 73 [some (.inr (.inr 92)), some (.inl x1), some (.inl x2)] [] M')) : XW kX12_becomes (d + 1) (some .int) (wQi Q) 69 [some (.inr (.inr 92)), some (.inl x1), some (.inl x2)] [] M := by
  refine x_aload_n rfl rfl ?_
  exact x_callv (args := [.inr (.inr 92)]) rfl rfl rfl k
theorem uX12_becomes_73 {d : Nat} {Q : Int → yM → Prop} {M : yM} {x1 : Int} {x2 : Int} (k : XCv d 128 [.inr (.inr 92)] M (fun M' => XW kX12_becomes (d + 1) (some .int) (wQi Q) 77 [some (.inr (.inr 92)), some (.inl x1), some (.inl x2)] [] M')) : XW kX12_becomes (d + 1) (some .int) (wQi Q) 73 [some (.inr (.inr 92)), some (.inl x1), some (.inl x2)] [] M := by
  refine x_aload_n rfl rfl ?_
  exact x_callv (args := [.inr (.inr 92)]) rfl rfl rfl k
theorem uX12_becomes_77 {d : Nat} {Q : Int → yM → Prop} {M : yM} {x1 : Int} {x2 : Int} (k : Q (ld M 92 2) M) : XW kX12_becomes d (some .int) (wQi Q) 77 [some (.inr (.inr 92)), some (.inl x1), some (.inl x2)] [] M := by
  refine x_aload_n rfl rfl ?_
  refine x_getI rfl sh92 rfl ?_
  exact x_ireturn rfl k
