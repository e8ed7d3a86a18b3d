/-! A RULE A BLOCK of each method, by wip/gen/rules.py -/
def arrSh (a n : Nat) : Prop := shT[a]? = some (.inr (0, n, [])) ∧ n ≤ 100000
def tabSh (t : Nat) : Prop := shT[t]? = some (.inl (9, [(0, 0), (2, t + 1), (2, t + 2), (2, t + 3), (2, t + 4), (2, t + 5)])) ∧ arrSh (t + 1) 8 ∧ arrSh (t + 2) 64 ∧ arrSh (t + 3) 256 ∧ arrSh (t + 4) 1024 ∧ arrSh (t + 5) 8
def termSh (t : Nat) : Prop := shT[t]? = some (.inl (10, [(2, t + 1), (0, 0), (0, 0)])) ∧ arrSh (t + 1) 60
theorem ytab_df {x lo : Int} {tg : List Nat} {df : Nat} (hx : -2147483648 ≤ x ∧ x < 2147483648) (h : x < lo ∨ lo + (tg.length : Int) ≤ x) : xtab (Int32.ofInt x) lo tg df = df := by
  unfold xtab
  rw [Int32.toInt_ofInt_of_le hx.1 hx.2]
  by_cases h1 : x < lo
  · rw [if_pos h1]
  · rw [if_neg h1, List.getElem?_eq_none (by omega)]
    rfl
theorem yref23 {j : Int} (h : 0 ≤ j ∧ j < 29) : xFr 23 j.toNat = some (24 + j.toNat) := by
  have : ∀ n : Nat, n < 29 → xFr 23 n = some (24 + n) := by decide +kernel
  exact this _ (by omega)
theorem yref57 {j : Int} (h : 0 ≤ j ∧ j < 3) : xFr 57 j.toNat = some (58 + j.toNat) := by
  have : ∀ n : Nat, n < 3 → xFr 57 n = some (58 + n) := by decide +kernel
  exact this _ (by omega)
theorem yref83 {j : Int} (h : 0 ≤ j ∧ j < 4) : xFr 83 j.toNat = some (84 + 2 * j.toNat) := by
  have : ∀ n : Nat, n < 4 → xFr 83 n = some (84 + 2 * n) := by decide +kernel
  exact this _ (by omega)
theorem arrSh_lev : ∀ n : Nat, n < 29 → arrSh (24 + n) 64 := by
  intro n hn
  refine ⟨?_, by omega⟩
  match n, hn with
  | 0, _ => exact sh24
  | 1, _ => exact sh25
  | 2, _ => exact sh26
  | 3, _ => exact sh27
  | 4, _ => exact sh28
  | 5, _ => exact sh29
  | 6, _ => exact sh30
  | 7, _ => exact sh31
  | 8, _ => exact sh32
  | 9, _ => exact sh33
  | 10, _ => exact sh34
  | 11, _ => exact sh35
  | 12, _ => exact sh36
  | 13, _ => exact sh37
  | 14, _ => exact sh38
  | 15, _ => exact sh39
  | 16, _ => exact sh40
  | 17, _ => exact sh41
  | 18, _ => exact sh42
  | 19, _ => exact sh43
  | 20, _ => exact sh44
  | 21, _ => exact sh45
  | 22, _ => exact sh46
  | 23, _ => exact sh47
  | 24, _ => exact sh48
  | 25, _ => exact sh49
  | 26, _ => exact sh50
  | 27, _ => exact sh51
  | 28, _ => exact sh52
theorem yarr23 {j : Int} (h : 0 ≤ j ∧ j < 29) : arrSh (24 + j.toNat) 64 := arrSh_lev _ (by omega)
theorem arrSh_way : ∀ n : Nat, n < 3 → arrSh (58 + n) 64 := by
  intro n hn
  refine ⟨?_, by omega⟩
  match n, hn with
  | 0, _ => exact sh58
  | 1, _ => exact sh59
  | 2, _ => exact sh60
theorem yarr57 {j : Int} (h : 0 ≤ j ∧ j < 3) : arrSh (58 + j.toNat) 64 := arrSh_way _ (by omega)
theorem termSh_at : ∀ n : Nat, n < 4 → termSh (84 + 2 * n) := by
  intro n hn
  match n, hn with
  | 0, _ => exact ⟨sh84, sh85, by omega⟩
  | 1, _ => exact ⟨sh86, sh87, by omega⟩
  | 2, _ => exact ⟨sh88, sh89, by omega⟩
  | 3, _ => exact ⟨sh90, sh91, by omega⟩
theorem yterm83 {j : Int} (h : 0 ≤ j ∧ j < 4) : termSh (84 + 2 * j.toNat) := termSh_at _ (by omega)
theorem tabSh1 : tabSh 1 := ⟨sh1, ⟨sh2, by omega⟩, ⟨sh3, by omega⟩, ⟨sh4, by omega⟩, ⟨sh5, by omega⟩, ⟨sh6, by omega⟩⟩
theorem tabSh7 : tabSh 7 := ⟨sh7, ⟨sh8, by omega⟩, ⟨sh9, by omega⟩, ⟨sh10, by omega⟩, ⟨sh11, by omega⟩, ⟨sh12, by omega⟩⟩
theorem tabSh13 : tabSh 13 := ⟨sh13, ⟨sh14, by omega⟩, ⟨sh15, by omega⟩, ⟨sh16, by omega⟩, ⟨sh17, by omega⟩, ⟨sh18, by omega⟩⟩
theorem eX0_forget {d : Nat} {Q : yM → Prop} {M : yM}   (h : XW kX0_forget d none (wQv Q) 0 [some (.inr (.inr 73))] [] M) : XCv d 1 [.inr (.inr 73)] M Q :=
  XC.ofW (Mm := (yX0_forget, cX0_forget, 1, none, 1, kX0_forget)) rfl (rcv_ok sh73) rfl rfl h
theorem uX0_forget_0 {d : Nat} {Q : yM → Prop} {M : yM}  (k : XCv d 181 [.inr (.inr 75), .inl (-1)] M (fun M' => XW kX0_forget (d + 1) none (wQv Q) 8 [some (.inr (.inr 73))] [] M')) : XW kX0_forget (d + 1) none (wQv Q) 0 [some (.inr (.inr 73))] [] M := by
  refine x_aload_n rfl rfl ?_
  refine x_getR rfl sh73 rfl ?_
  refine x_iconst (-1) rfl (by decide) ?_
  exact x_callv (args := [.inr (.inr 75), .inl (-1)]) rfl rfl rfl k
theorem uX0_forget_8 {d : Nat} {Q : yM → Prop} {M : yM}  (k : XCv d 181 [.inr (.inr 76), .inl (-1)] M (fun M' => XW kX0_forget (d + 1) none (wQv Q) 16 [some (.inr (.inr 73))] [] M')) : XW kX0_forget (d + 1) none (wQv Q) 8 [some (.inr (.inr 73))] [] M := by
  refine x_aload_n rfl rfl ?_
  refine x_getR rfl sh73 rfl ?_
  refine x_iconst (-1) rfl (by decide) ?_
  exact x_callv (args := [.inr (.inr 76), .inl (-1)]) rfl rfl rfl k
theorem uX0_forget_16 {d : Nat} {Q : yM → Prop} {M : yM}  (k : Q M) : XW kX0_forget d none (wQv Q) 16 [some (.inr (.inr 73))] [] M := by
  exact x_return rfl k
theorem eX0_rowsOf {d : Nat} {Q : Int → yM → Prop} {M : yM} {x1 : Int}  (h : XW kX0_rowsOf d (some .int) (wQi Q) 0 [some (.inr (.inr 73)), some (.inl x1)] [] M) : XCi d 2 [.inr (.inr 73), .inl x1] M Q :=
  XC.ofW (Mm := (yX0_rowsOf, cX0_rowsOf, 2, (some .int), 1, kX0_rowsOf)) rfl (rcv_ok sh73) rfl rfl h
theorem uX0_rowsOf_0 {d : Nat} {Q : Int → yM → Prop} {M : yM} {x1 : Int} (h1 : 0 ≤ x1 ∧ x1 < 6) (kt : (ld M 75 x1) ≠ (-1) → XW kX0_rowsOf d (some .int) (wQi Q) 36 [some (.inr (.inr 73)), some (.inl x1)] [] M) (kf : (ld M 75 x1) = (-1) → XW kX0_rowsOf d (some .int) (wQi Q) 10 [some (.inr (.inr 73)), some (.inl x1)] [] M) : XW kX0_rowsOf d (some .int) (wQi Q) 0 [some (.inr (.inr 73)), some (.inl x1)] [] M := by
  refine x_aload_n rfl rfl ?_
  refine x_getR rfl sh73 rfl ?_
  refine x_iload_n rfl rfl ?_
  refine x_iaload rfl ⟨sh75, Nat.le_of_ble_eq_true rfl⟩ h1 ?_
  refine x_iconst (-1) rfl (by decide) ?_
  exact x_icmpne rfl (rng_ld _ _ _) (by decide) kt kf
theorem uX0_rowsOf_10 {d : Nat} {Q : Int → yM → Prop} {M : yM} {x1 : Int} (k : XCv d 4 [.inr (.inr 73)] M (fun M' => XW kX0_rowsOf (d + 1) (some .int) (wQi Q) 14 [some (.inr (.inr 73)), some (.inl x1)] [] M')) : XW kX0_rowsOf (d + 1) (some .int) (wQi Q) 10 [some (.inr (.inr 73)), some (.inl x1)] [] M := by
  refine x_aload_n rfl rfl ?_
  exact x_callv (args := [.inr (.inr 73)]) rfl rfl rfl k
theorem uX0_rowsOf_14 {d : Nat} {Q : Int → yM → Prop} {M : yM} {x1 : Int} (k : XCi d 46 [.inr (.inr 22), .inr (.inr 74), .inl x1, .inl 20001, .inl 0] M (fun v M' => XW kX0_rowsOf (d + 1) (some .int) (wQi Q) 35 [some (.inr (.inr 73)), some (.inl x1)] [.inl v, .inl x1, .inr (.inr 75)] M')) : XW kX0_rowsOf (d + 1) (some .int) (wQi Q) 14 [some (.inr (.inr 73)), some (.inl x1)] [] M := by
  refine x_aload_n rfl rfl ?_
  refine x_getR rfl sh73 rfl ?_
  refine x_iload_n rfl rfl ?_
  refine x_aload_n rfl rfl ?_
  refine x_getR rfl sh73 rfl ?_
  refine x_aload_n rfl rfl ?_
  refine x_getR rfl sh73 rfl ?_
  refine x_iload_n rfl rfl ?_
  refine x_sipush 20001 rfl (by decide) ?_
  refine x_iconst 0 rfl (by decide) ?_
  exact x_calli (args := [.inr (.inr 22), .inr (.inr 74), .inl x1, .inl 20001, .inl 0]) rfl rfl rfl k
theorem uX0_rowsOf_35 {d : Nat} {Q : Int → yM → Prop} {M : yM} {x1 : Int} {s0 : Int} {s1 : Int} (h1 : 0 ≤ s1 ∧ s1 < 6) (k : ∀ M', M' = (put M 75 s1 s0) → XW kX0_rowsOf d (some .int) (wQi Q) 36 [some (.inr (.inr 73)), some (.inl x1)] [] M') : XW kX0_rowsOf d (some .int) (wQi Q) 35 [some (.inr (.inr 73)), some (.inl x1)] [.inl s0, .inl s1, .inr (.inr 75)] M := by
  refine x_iastore rfl ⟨sh75, Nat.le_of_ble_eq_true rfl⟩ h1  ?_
  exact k _ rfl
theorem uX0_rowsOf_36 {d : Nat} {Q : Int → yM → Prop} {M : yM} {x1 : Int} (h1 : 0 ≤ x1 ∧ x1 < 6) (k : Q (ld M 75 x1) M) : XW kX0_rowsOf d (some .int) (wQi Q) 36 [some (.inr (.inr 73)), some (.inl x1)] [] M := by
  refine x_aload_n rfl rfl ?_
  refine x_getR rfl sh73 rfl ?_
  refine x_iload_n rfl rfl ?_
  refine x_iaload rfl ⟨sh75, Nat.le_of_ble_eq_true rfl⟩ h1 ?_
  exact x_ireturn rfl k
theorem eX0_wholesOf {d : Nat} {Q : Int → yM → Prop} {M : yM} {x1 : Int}  (h : XW kX0_wholesOf d (some .int) (wQi Q) 0 [some (.inr (.inr 73)), some (.inl x1)] [] M) : XCi d 3 [.inr (.inr 73), .inl x1] M Q :=
  XC.ofW (Mm := (yX0_wholesOf, cX0_wholesOf, 2, (some .int), 1, kX0_wholesOf)) rfl (rcv_ok sh73) rfl rfl h
theorem uX0_wholesOf_0 {d : Nat} {Q : Int → yM → Prop} {M : yM} {x1 : Int} (h1 : 0 ≤ x1 ∧ x1 < 6) (kt : (ld M 76 x1) ≠ (-1) → XW kX0_wholesOf d (some .int) (wQi Q) 44 [some (.inr (.inr 73)), some (.inl x1)] [] M) (kf : (ld M 76 x1) = (-1) → XW kX0_wholesOf d (some .int) (wQi Q) 10 [some (.inr (.inr 73)), some (.inl x1)] [] M) : XW kX0_wholesOf d (some .int) (wQi Q) 0 [some (.inr (.inr 73)), some (.inl x1)] [] M := by
  refine x_aload_n rfl rfl ?_
  refine x_getR rfl sh73 rfl ?_
  refine x_iload_n rfl rfl ?_
  refine x_iaload rfl ⟨sh76, Nat.le_of_ble_eq_true rfl⟩ h1 ?_
  refine x_iconst (-1) rfl (by decide) ?_
  exact x_icmpne rfl (rng_ld _ _ _) (by decide) kt kf
theorem uX0_wholesOf_10 {d : Nat} {Q : Int → yM → Prop} {M : yM} {x1 : Int} (k : XCv d 4 [.inr (.inr 73)] M (fun M' => XW kX0_wholesOf (d + 1) (some .int) (wQi Q) 14 [some (.inr (.inr 73)), some (.inl x1)] [] M')) : XW kX0_wholesOf (d + 1) (some .int) (wQi Q) 10 [some (.inr (.inr 73)), some (.inl x1)] [] M := by
  refine x_aload_n rfl rfl ?_
  exact x_callv (args := [.inr (.inr 73)]) rfl rfl rfl k
theorem uX0_wholesOf_14 {d : Nat} {Q : Int → yM → Prop} {M : yM} {x1 : Int} (k : XCi d 46 [.inr (.inr 22), .inr (.inr 74), .inl x1, .inl 20001, .inl 1] M (fun v M' => XW kX0_wholesOf (d + 1) (some .int) (wQi Q) 30 [some (.inr (.inr 73)), some (.inl x1)] [.inl v] M')) : XW kX0_wholesOf (d + 1) (some .int) (wQi Q) 14 [some (.inr (.inr 73)), some (.inl x1)] [] M := by
  refine x_aload_n rfl rfl ?_
  refine x_getR rfl sh73 rfl ?_
  refine x_aload_n rfl rfl ?_
  refine x_getR rfl sh73 rfl ?_
  refine x_iload_n rfl rfl ?_
  refine x_sipush 20001 rfl (by decide) ?_
  refine x_iconst 1 rfl (by decide) ?_
  exact x_calli (args := [.inr (.inr 22), .inr (.inr 74), .inl x1, .inl 20001, .inl 1]) rfl rfl rfl k
theorem uX0_wholesOf_30 {d : Nat} {Q : Int → yM → Prop} {M : yM} {x1 : Int} {s0 : Int} (h1 : 0 ≤ x1 ∧ x1 < 6) (k : ∀ M', M' = (put M 76 x1 (ld M 22 8)) → XW kX0_wholesOf d (some .int) (wQi Q) 44 [some (.inr (.inr 73)), some (.inl x1)] [] M') : XW kX0_wholesOf d (some .int) (wQi Q) 30 [some (.inr (.inr 73)), some (.inl x1)] [.inl s0] M := by
  refine x_popi rfl ?_
  refine x_aload_n rfl rfl ?_
  refine x_getR rfl sh73 rfl ?_
  refine x_iload_n rfl rfl ?_
  refine x_aload_n rfl rfl ?_
  refine x_getR rfl sh73 rfl ?_
  refine x_getI rfl sh22 rfl ?_
  refine x_iastore rfl ⟨sh76, Nat.le_of_ble_eq_true rfl⟩ h1  ?_
  exact k _ rfl
theorem uX0_wholesOf_44 {d : Nat} {Q : Int → yM → Prop} {M : yM} {x1 : Int} (h1 : 0 ≤ x1 ∧ x1 < 6) (k : Q (ld M 76 x1) M) : XW kX0_wholesOf d (some .int) (wQi Q) 44 [some (.inr (.inr 73)), some (.inl x1)] [] M := by
  refine x_aload_n rfl rfl ?_
  refine x_getR rfl sh73 rfl ?_
  refine x_iload_n rfl rfl ?_
  refine x_iaload rfl ⟨sh76, Nat.le_of_ble_eq_true rfl⟩ h1 ?_
  exact x_ireturn rfl k
theorem eX0_restart {d : Nat} {Q : yM → Prop} {M : yM}   (h : XW kX0_restart d none (wQv Q) 0 [some (.inr (.inr 73)), none, none] [] M) : XCv d 4 [.inr (.inr 73)] M Q :=
  XC.ofW (Mm := (yX0_restart, cX0_restart, 3, none, 1, kX0_restart)) rfl (rcv_ok sh73) rfl rfl h
theorem uX0_restart_0 {d : Nat} {Q : yM → Prop} {M : yM}  (k : XCi d 60 [.inr (.inr 1)] M (fun v M' => XW kX0_restart (d + 1) none (wQv Q) 7 [some (.inr (.inr 73)), none, none] [.inl v] M')) : XW kX0_restart (d + 1) none (wQv Q) 0 [some (.inr (.inr 73)), none, none] [] M := by
  refine x_aload_n rfl rfl ?_
  refine x_getR rfl sh73 rfl ?_
  exact x_calli (args := [.inr (.inr 1)]) rfl rfl rfl k
theorem uX0_restart_7 {d : Nat} {Q : yM → Prop} {M : yM} {s0 : Int} (k : XW kX0_restart d none (wQv Q) 13 [some (.inr (.inr 73)), some (.inl (yand s0 (-2))), some (.inl 0)] [] M) : XW kX0_restart d none (wQv Q) 7 [some (.inr (.inr 73)), none, none] [.inl s0] M := by
  refine x_bipush (-2) rfl (by decide) ?_
  refine x_iand rfl ?_
  refine x_istore_n rfl (Nat.le_of_ble_eq_true rfl) rfl ?_
  refine x_iconst 0 rfl (by decide) ?_
  refine x_istore_n rfl (Nat.le_of_ble_eq_true rfl) rfl ?_
  exact k
theorem uX0_restart_13 {d : Nat} {Q : yM → Prop} {M : yM} {x1 : Int} {x2 : Int} (h1 : -2147483648 ≤ x2 ∧ x2 < 2147483648) (kt : x2 ≥ 64 → XW kX0_restart d none (wQv Q) 46 [some (.inr (.inr 73)), some (.inl x1), some (.inl x2)] [] M) (kf : x2 < 64 → XW kX0_restart d none (wQv Q) 19 [some (.inr (.inr 73)), some (.inl x1), some (.inl x2)] [] M) : XW kX0_restart d none (wQv Q) 13 [some (.inr (.inr 73)), some (.inl x1), some (.inl x2)] [] M := by
  refine x_iload_n rfl rfl ?_
  refine x_bipush 64 rfl (by decide) ?_
  exact x_icmpge rfl h1 (by decide) kt kf
theorem uX0_restart_19 {d : Nat} {Q : yM → Prop} {M : yM} {x1 : Int} {x2 : Int} (kt : (yshr x2 3) ≠ (yand x2 7) → XW kX0_restart d none (wQv Q) 38 [some (.inr (.inr 73)), some (.inl x1), some (.inl x2)] [.inl x2, .inr (.inr 74)] M) (kf : (yshr x2 3) = (yand x2 7) → XW kX0_restart d none (wQv Q) 34 [some (.inr (.inr 73)), some (.inl x1), some (.inl x2)] [.inl x2, .inr (.inr 74)] M) : XW kX0_restart d none (wQv Q) 19 [some (.inr (.inr 73)), some (.inl x1), some (.inl x2)] [] M := by
  refine x_aload_n rfl rfl ?_
  refine x_getR rfl sh73 rfl ?_
  refine x_iload_n rfl rfl ?_
  refine x_iload_n rfl rfl ?_
  refine x_iconst 3 rfl (by decide) ?_
  refine x_ishr rfl ?_
  refine x_iload_n rfl rfl ?_
  refine x_bipush 7 rfl (by decide) ?_
  refine x_iand rfl ?_
  exact x_icmpne rfl (rng_yshr _ _) (rng_yand _ _) kt kf
theorem uX0_restart_34 {d : Nat} {Q : yM → Prop} {M : yM} {x1 : Int} {x2 : Int} {s0 : Int} (k : XW kX0_restart d none (wQv Q) 39 [some (.inr (.inr 73)), some (.inl x1), some (.inl x2)] [.inl 1, .inl s0, .inr (.inr 74)] M) : XW kX0_restart d none (wQv Q) 34 [some (.inr (.inr 73)), some (.inl x1), some (.inl x2)] [.inl s0, .inr (.inr 74)] M := by
  refine x_iconst 1 rfl (by decide) ?_
  exact x_goto rfl k
theorem uX0_restart_38 {d : Nat} {Q : yM → Prop} {M : yM} {x1 : Int} {x2 : Int} {s0 : Int} (k : XW kX0_restart d none (wQv Q) 39 [some (.inr (.inr 73)), some (.inl x1), some (.inl x2)] [.inl x1, .inl s0, .inr (.inr 74)] M) : XW kX0_restart d none (wQv Q) 38 [some (.inr (.inr 73)), some (.inl x1), some (.inl x2)] [.inl s0, .inr (.inr 74)] M := by
  refine x_iload_n rfl rfl ?_
  exact k
theorem uX0_restart_39 {d : Nat} {Q : yM → Prop} {M : yM} {x1 : Int} {x2 : Int} {s0 : Int} {s1 : Int} (h1 : 0 ≤ s1 ∧ s1 < 64) (k : ∀ M', M' = (put M 74 s1 s0) → XW kX0_restart d none (wQv Q) 40 [some (.inr (.inr 73)), some (.inl x1), some (.inl x2)] [] M') : XW kX0_restart d none (wQv Q) 39 [some (.inr (.inr 73)), some (.inl x1), some (.inl x2)] [.inl s0, .inl s1, .inr (.inr 74)] M := by
  refine x_iastore rfl ⟨sh74, Nat.le_of_ble_eq_true rfl⟩ h1  ?_
  exact k _ rfl
theorem uX0_restart_40 {d : Nat} {Q : yM → Prop} {M : yM} {x1 : Int} {x2 : Int} (k : XW kX0_restart d none (wQv Q) 13 [some (.inr (.inr 73)), some (.inl x1), some (.inl (x2 + 1))] [] M) : XW kX0_restart d none (wQv Q) 40 [some (.inr (.inr 73)), some (.inl x1), some (.inl x2)] [] M := by
  refine x_iinc 1 rfl (by decide) rfl rfl ?_
  exact x_goto rfl k
theorem uX0_restart_46 {d : Nat} {Q : yM → Prop} {M : yM} {x1 : Int} {x2 : Int} (k : Q M) : XW kX0_restart d none (wQv Q) 46 [some (.inr (.inr 73)), some (.inl x1), some (.inl x2)] [] M := by
  exact x_return rfl k
theorem eX1_add {d : Nat} {Q : yM → Prop} {M : yM} {x1 : Int}  (h : XW kX1_add d none (wQv Q) 0 [some (.inr (.inr 77)), some (.inl x1)] [] M) : XCv d 6 [.inr (.inr 77), .inl x1] M Q :=
  XC.ofW (Mm := (yX1_add, cX1_add, 2, none, 2, kX1_add)) rfl (rcv_ok sh77) rfl rfl h
theorem uX1_add_0 {d : Nat} {Q : yM → Prop} {M : yM} {x1 : Int} (kt : (ld M 77 1) ≥ 60 → XW kX1_add d none (wQv Q) 29 [some (.inr (.inr 77)), some (.inl x1)] [] M) (kf : (ld M 77 1) < 60 → XW kX1_add d none (wQv Q) 9 [some (.inr (.inr 77)), some (.inl x1)] [] M) : XW kX1_add d none (wQv Q) 0 [some (.inr (.inr 77)), some (.inl x1)] [] M := by
  refine x_aload_n rfl rfl ?_
  refine x_getI rfl sh77 rfl ?_
  refine x_bipush 60 rfl (by decide) ?_
  exact x_icmpge rfl (rng_ld _ _ _) (by decide) kt kf
theorem uX1_add_9 {d : Nat} {Q : yM → Prop} {M : yM} {x1 : Int} (h1 : 0 ≤ (ld M 77 1) ∧ (ld M 77 1) < 60) (k : ∀ M', M' = (put M 78 (ld M 77 1) x1) → XW kX1_add d none (wQv Q) 19 [some (.inr (.inr 77)), some (.inl x1)] [] M') : XW kX1_add d none (wQv Q) 9 [some (.inr (.inr 77)), some (.inl x1)] [] M := by
  refine x_aload_n rfl rfl ?_
  refine x_getR rfl sh77 rfl ?_
  refine x_aload_n rfl rfl ?_
  refine x_getI rfl sh77 rfl ?_
  refine x_iload_n rfl rfl ?_
  refine x_iastore rfl ⟨sh78, Nat.le_of_ble_eq_true rfl⟩ h1  ?_
  exact k _ rfl
theorem uX1_add_19 {d : Nat} {Q : yM → Prop} {M : yM} {x1 : Int} (k : ∀ M', M' = (put M 77 1 ((ld M 77 1) + 1)) → XW kX1_add d none (wQv Q) 29 [some (.inr (.inr 77)), some (.inl x1)] [] M') : XW kX1_add d none (wQv Q) 19 [some (.inr (.inr 77)), some (.inl x1)] [] M := by
  refine x_aload_n rfl rfl ?_
  refine x_dupa rfl ?_
  refine x_getI rfl sh77 rfl ?_
  refine x_iconst 1 rfl (by decide) ?_
  refine x_iadd rfl ?_
  refine x_putI rfl rfl sh77 rfl ?_
  exact k _ rfl
theorem uX1_add_29 {d : Nat} {Q : yM → Prop} {M : yM} {x1 : Int} (k : Q M) : XW kX1_add d none (wQv Q) 29 [some (.inr (.inr 77)), some (.inl x1)] [] M := by
  exact x_return rfl k
theorem eX1_firstFault {d : Nat} {Q : Int → yM → Prop} {M : yM} {x1 : Int}  (h : XW kX1_firstFault d (some .int) (wQi Q) 0 [some (.inr (.inr 77)), some (.inl x1), none, none, none] [] M) : XCi d 7 [.inr (.inr 77), .inl x1] M Q :=
  XC.ofW (Mm := (yX1_firstFault, cX1_firstFault, 5, (some .int), 2, kX1_firstFault)) rfl (rcv_ok sh77) rfl rfl h
theorem uX1_firstFault_0 {d : Nat} {Q : Int → yM → Prop} {M : yM} {x1 : Int} (k : ∀ M', M' = (put M 77 3 0) → XW kX1_firstFault d (some .int) (wQi Q) 5 [some (.inr (.inr 77)), some (.inl x1), none, none, none] [] M') : XW kX1_firstFault d (some .int) (wQi Q) 0 [some (.inr (.inr 77)), some (.inl x1), none, none, none] [] M := by
  refine x_aload_n rfl rfl ?_
  refine x_iconst 0 rfl (by decide) ?_
  refine x_putI rfl rfl sh77 rfl ?_
  exact k _ rfl
theorem uX1_firstFault_5 {d : Nat} {Q : Int → yM → Prop} {M : yM} {x1 : Int} (k : ∀ M', M' = (put M 77 4 0) → XW kX1_firstFault d (some .int) (wQi Q) 10 [some (.inr (.inr 77)), some (.inl x1), none, none, none] [] M') : XW kX1_firstFault d (some .int) (wQi Q) 5 [some (.inr (.inr 77)), some (.inl x1), none, none, none] [] M := by
  refine x_aload_n rfl rfl ?_
  refine x_iconst 0 rfl (by decide) ?_
  refine x_putI rfl rfl sh77 rfl ?_
  exact k _ rfl
theorem uX1_firstFault_10 {d : Nat} {Q : Int → yM → Prop} {M : yM} {x1 : Int} (k : ∀ M', M' = (put M 77 6 0) → XW kX1_firstFault d (some .int) (wQi Q) 15 [some (.inr (.inr 77)), some (.inl x1), none, none, none] [] M') : XW kX1_firstFault d (some .int) (wQi Q) 10 [some (.inr (.inr 77)), some (.inl x1), none, none, none] [] M := by
  refine x_aload_n rfl rfl ?_
  refine x_iconst 0 rfl (by decide) ?_
  refine x_putI rfl rfl sh77 rfl ?_
  exact k _ rfl
theorem uX1_firstFault_15 {d : Nat} {Q : Int → yM → Prop} {M : yM} {x1 : Int} (k : ∀ M', M' = (put M 77 7 0) → XW kX1_firstFault d (some .int) (wQi Q) 20 [some (.inr (.inr 77)), some (.inl x1), none, none, none] [] M') : XW kX1_firstFault d (some .int) (wQi Q) 15 [some (.inr (.inr 77)), some (.inl x1), none, none, none] [] M := by
  refine x_aload_n rfl rfl ?_
  refine x_iconst 0 rfl (by decide) ?_
  refine x_putI rfl rfl sh77 rfl ?_
  exact k _ rfl
theorem uX1_firstFault_20 {d : Nat} {Q : Int → yM → Prop} {M : yM} {x1 : Int} (k : ∀ M', M' = (put M 77 8 0) → XW kX1_firstFault d (some .int) (wQi Q) 25 [some (.inr (.inr 77)), some (.inl x1), none, none, none] [] M') : XW kX1_firstFault d (some .int) (wQi Q) 20 [some (.inr (.inr 77)), some (.inl x1), none, none, none] [] M := by
  refine x_aload_n rfl rfl ?_
  refine x_iconst 0 rfl (by decide) ?_
  refine x_putI rfl rfl sh77 rfl ?_
  exact k _ rfl
theorem uX1_firstFault_25 {d : Nat} {Q : Int → yM → Prop} {M : yM} {x1 : Int} (k : ∀ M', M' = (put M 77 9 0) → XW kX1_firstFault d (some .int) (wQi Q) 30 [some (.inr (.inr 77)), some (.inl x1), none, none, none] [] M') : XW kX1_firstFault d (some .int) (wQi Q) 25 [some (.inr (.inr 77)), some (.inl x1), none, none, none] [] M := by
  refine x_aload_n rfl rfl ?_
  refine x_iconst 0 rfl (by decide) ?_
  refine x_putZ rfl rfl sh77 rfl (by decide) ?_
  exact k _ rfl
theorem uX1_firstFault_30 {d : Nat} {Q : Int → yM → Prop} {M : yM} {x1 : Int} (k : XW kX1_firstFault d (some .int) (wQi Q) 32 [some (.inr (.inr 77)), some (.inl x1), some (.inl 0), none, none] [] M) : XW kX1_firstFault d (some .int) (wQi Q) 30 [some (.inr (.inr 77)), some (.inl x1), none, none, none] [] M := by
  refine x_iconst 0 rfl (by decide) ?_
  refine x_istore_n rfl (Nat.le_of_ble_eq_true rfl) rfl ?_
  exact k
theorem uX1_firstFault_32 {d : Nat} {Q : Int → yM → Prop} {M : yM} {x1 : Int} {x2 : Int} {wx3 : Option yV} {wx4 : Option yV} (h1 : -2147483648 ≤ x2 ∧ x2 < 2147483648) (kt : x2 ≥ (ld M 77 1) → XW kX1_firstFault d (some .int) (wQi Q) 89 [some (.inr (.inr 77)), some (.inl x1), some (.inl x2), wx3, wx4] [] M) (kf : x2 < (ld M 77 1) → XW kX1_firstFault d (some .int) (wQi Q) 40 [some (.inr (.inr 77)), some (.inl x1), some (.inl x2), wx3, wx4] [] M) : XW kX1_firstFault d (some .int) (wQi Q) 32 [some (.inr (.inr 77)), some (.inl x1), some (.inl x2), wx3, wx4] [] M := by
  refine x_iload_n rfl rfl ?_
  refine x_aload_n rfl rfl ?_
  refine x_getI rfl sh77 rfl ?_
  exact x_icmpge rfl h1 (rng_ld _ _ _) kt kf
theorem uX1_firstFault_40 {d : Nat} {Q : Int → yM → Prop} {M : yM} {x1 : Int} {x2 : Int} {wx3 : Option yV} {wx4 : Option yV} (h1 : -2147483648 ≤ x2 ∧ x2 < 2147483648) (kt : x2 ≥ 60 → XW kX1_firstFault d (some .int) (wQi Q) 89 [some (.inr (.inr 77)), some (.inl x1), some (.inl x2), wx3, wx4] [] M) (kf : x2 < 60 → XW kX1_firstFault d (some .int) (wQi Q) 46 [some (.inr (.inr 77)), some (.inl x1), some (.inl x2), wx3, wx4] [] M) : XW kX1_firstFault d (some .int) (wQi Q) 40 [some (.inr (.inr 77)), some (.inl x1), some (.inl x2), wx3, wx4] [] M := by
  refine x_iload_n rfl rfl ?_
  refine x_bipush 60 rfl (by decide) ?_
  exact x_icmpge rfl h1 (by decide) kt kf
theorem uX1_firstFault_46 {d : Nat} {Q : Int → yM → Prop} {M : yM} {x1 : Int} {x2 : Int} {wx3 : Option yV} {wx4 : Option yV} (h1 : 0 ≤ x2 ∧ x2 < 60) (kt : (ld M 77 9) = 0 → XW kX1_firstFault d (some .int) (wQi Q) 68 [some (.inr (.inr 77)), some (.inl x1), some (.inl x2), some (.inl (ld M 78 x2)), wx4] [] M) (kf : (ld M 77 9) ≠ 0 → XW kX1_firstFault d (some .int) (wQi Q) 60 [some (.inr (.inr 77)), some (.inl x1), some (.inl x2), some (.inl (ld M 78 x2)), wx4] [] M) : XW kX1_firstFault d (some .int) (wQi Q) 46 [some (.inr (.inr 77)), some (.inl x1), some (.inl x2), wx3, wx4] [] M := by
  refine x_aload_n rfl rfl ?_
  refine x_getR rfl sh77 rfl ?_
  refine x_iload_n rfl rfl ?_
  refine x_iaload rfl ⟨sh78, Nat.le_of_ble_eq_true rfl⟩ h1 ?_
  refine x_istore_n rfl (Nat.le_of_ble_eq_true rfl) rfl ?_
  refine x_aload_n rfl rfl ?_
  refine x_getI rfl sh77 rfl ?_
  exact x_ifeq rfl (rng_ld _ _ _) kt kf
theorem uX1_firstFault_60 {d : Nat} {Q : Int → yM → Prop} {M : yM} {x1 : Int} {x2 : Int} {x3 : Int} {wx4 : Option yV} (k : XCi d 9 [.inr (.inr 77), .inl x3] M (fun v M' => XW kX1_firstFault (d + 1) (some .int) (wQi Q) 65 [some (.inr (.inr 77)), some (.inl x1), some (.inl x2), some (.inl x3), wx4] [.inl v] M')) : XW kX1_firstFault (d + 1) (some .int) (wQi Q) 60 [some (.inr (.inr 77)), some (.inl x1), some (.inl x2), some (.inl x3), wx4] [] M := by
  refine x_aload_n rfl rfl ?_
  refine x_iload_n rfl rfl ?_
  exact x_calli (args := [.inr (.inr 77), .inl x3]) rfl rfl rfl k
theorem uX1_firstFault_65 {d : Nat} {Q : Int → yM → Prop} {M : yM} {x1 : Int} {x2 : Int} {x3 : Int} {wx4 : Option yV} {s0 : Int} (k : XW kX1_firstFault d (some .int) (wQi Q) 74 [some (.inr (.inr 77)), some (.inl x1), some (.inl x2), some (.inl x3), wx4] [.inl s0] M) : XW kX1_firstFault d (some .int) (wQi Q) 65 [some (.inr (.inr 77)), some (.inl x1), some (.inl x2), some (.inl x3), wx4] [.inl s0] M := by
  exact x_goto rfl k
theorem uX1_firstFault_68 {d : Nat} {Q : Int → yM → Prop} {M : yM} {x1 : Int} {x2 : Int} {x3 : Int} {wx4 : Option yV} (k : XCi d 8 [.inr (.inr 77), .inl x3, .inl x1] M (fun v M' => XW kX1_firstFault (d + 1) (some .int) (wQi Q) 74 [some (.inr (.inr 77)), some (.inl x1), some (.inl x2), some (.inl x3), wx4] [.inl v] M')) : XW kX1_firstFault (d + 1) (some .int) (wQi Q) 68 [some (.inr (.inr 77)), some (.inl x1), some (.inl x2), some (.inl x3), wx4] [] M := by
  refine x_aload_n rfl rfl ?_
  refine x_iload_n rfl rfl ?_
  refine x_iload_n rfl rfl ?_
  exact x_calli (args := [.inr (.inr 77), .inl x3, .inl x1]) rfl rfl rfl k
theorem uX1_firstFault_74 {d : Nat} {Q : Int → yM → Prop} {M : yM} {x1 : Int} {x2 : Int} {x3 : Int} {wx4 : Option yV} {s0 : Int} (h1 : -2147483648 ≤ s0 ∧ s0 < 2147483648) (kt : s0 ≠ 0 → XW kX1_firstFault d (some .int) (wQi Q) 83 [some (.inr (.inr 77)), some (.inl x1), some (.inl x2), some (.inl x3), some (.inl s0)] [] M) (kf : s0 = 0 → XW kX1_firstFault d (some .int) (wQi Q) 81 [some (.inr (.inr 77)), some (.inl x1), some (.inl x2), some (.inl x3), some (.inl s0)] [] M) : XW kX1_firstFault d (some .int) (wQi Q) 74 [some (.inr (.inr 77)), some (.inl x1), some (.inl x2), some (.inl x3), wx4] [.inl s0] M := by
  refine x_istore rfl (Nat.le_of_ble_eq_true rfl) rfl ?_
  refine x_iload rfl rfl ?_
  exact x_ifne rfl h1 kt kf
theorem uX1_firstFault_81 {d : Nat} {Q : Int → yM → Prop} {M : yM} {x1 : Int} {x2 : Int} {x3 : Int} {x4 : Int} (k : Q x2 M) : XW kX1_firstFault d (some .int) (wQi Q) 81 [some (.inr (.inr 77)), some (.inl x1), some (.inl x2), some (.inl x3), some (.inl x4)] [] M := by
  refine x_iload_n rfl rfl ?_
  exact x_ireturn rfl k
theorem uX1_firstFault_83 {d : Nat} {Q : Int → yM → Prop} {M : yM} {x1 : Int} {x2 : Int} {x3 : Int} {x4 : Int} (k : XW kX1_firstFault d (some .int) (wQi Q) 32 [some (.inr (.inr 77)), some (.inl x1), some (.inl (x2 + 1)), some (.inl x3), some (.inl x4)] [] M) : XW kX1_firstFault d (some .int) (wQi Q) 83 [some (.inr (.inr 77)), some (.inl x1), some (.inl x2), some (.inl x3), some (.inl x4)] [] M := by
  refine x_iinc 1 rfl (by decide) rfl rfl ?_
  exact x_goto rfl k
theorem uX1_firstFault_89 {d : Nat} {Q : Int → yM → Prop} {M : yM} {x1 : Int} {x2 : Int} {wx3 : Option yV} {wx4 : Option yV} (kt : (ld M 77 9) = 0 → XW kX1_firstFault d (some .int) (wQi Q) 103 [some (.inr (.inr 77)), some (.inl x1), some (.inl x2), wx3, wx4] [] M) (kf : (ld M 77 9) ≠ 0 → XW kX1_firstFault d (some .int) (wQi Q) 96 [some (.inr (.inr 77)), some (.inl x1), some (.inl x2), wx3, wx4] [] M) : XW kX1_firstFault d (some .int) (wQi Q) 89 [some (.inr (.inr 77)), some (.inl x1), some (.inl x2), wx3, wx4] [] M := by
  refine x_aload_n rfl rfl ?_
  refine x_getI rfl sh77 rfl ?_
  exact x_ifeq rfl (rng_ld _ _ _) kt kf
theorem uX1_firstFault_96 {d : Nat} {Q : Int → yM → Prop} {M : yM} {x1 : Int} {x2 : Int} {wx3 : Option yV} {wx4 : Option yV} (kt : (ld M 77 8) ≤ 0 → XW kX1_firstFault d (some .int) (wQi Q) 108 [some (.inr (.inr 77)), some (.inl x1), some (.inl x2), wx3, wx4] [] M) (kf : (ld M 77 8) > 0 → XW kX1_firstFault d (some .int) (wQi Q) 103 [some (.inr (.inr 77)), some (.inl x1), some (.inl x2), wx3, wx4] [] M) : XW kX1_firstFault d (some .int) (wQi Q) 96 [some (.inr (.inr 77)), some (.inl x1), some (.inl x2), wx3, wx4] [] M := by
  refine x_aload_n rfl rfl ?_
  refine x_getI rfl sh77 rfl ?_
  exact x_ifle rfl (rng_ld _ _ _) kt kf
theorem uX1_firstFault_103 {d : Nat} {Q : Int → yM → Prop} {M : yM} {x1 : Int} {x2 : Int} {wx3 : Option yV} {wx4 : Option yV} (k : Q (ld M 77 1) M) : XW kX1_firstFault d (some .int) (wQi Q) 103 [some (.inr (.inr 77)), some (.inl x1), some (.inl x2), wx3, wx4] [] M := by
  refine x_aload_n rfl rfl ?_
  refine x_getI rfl sh77 rfl ?_
  exact x_ireturn rfl k
theorem uX1_firstFault_108 {d : Nat} {Q : Int → yM → Prop} {M : yM} {x1 : Int} {x2 : Int} {wx3 : Option yV} {wx4 : Option yV} (k : XCv d 11 [.inr (.inr 77), .inl 1] M (fun M' => XW kX1_firstFault (d + 1) (some .int) (wQi Q) 113 [some (.inr (.inr 77)), some (.inl x1), some (.inl x2), wx3, wx4] [] M')) : XW kX1_firstFault (d + 1) (some .int) (wQi Q) 108 [some (.inr (.inr 77)), some (.inl x1), some (.inl x2), wx3, wx4] [] M := by
  refine x_aload_n rfl rfl ?_
  refine x_iconst 1 rfl (by decide) ?_
  exact x_callv (args := [.inr (.inr 77), .inl 1]) rfl rfl rfl k
theorem uX1_firstFault_113 {d : Nat} {Q : Int → yM → Prop} {M : yM} {x1 : Int} {x2 : Int} {wx3 : Option yV} {wx4 : Option yV} (k : Q (-9) M) : XW kX1_firstFault d (some .int) (wQi Q) 113 [some (.inr (.inr 77)), some (.inl x1), some (.inl x2), wx3, wx4] [] M := by
  refine x_bipush (-9) rfl (by decide) ?_
  exact x_ireturn rfl k
theorem eX1_standsAsFactor {d : Nat} {Q : Int → yM → Prop} {M : yM} {x1 : Int} {x2 : Int}  (h : XW kX1_standsAsFactor d (some .boolean) (wQi Q) 0 [some (.inr (.inr 77)), some (.inl x1), some (.inl x2), none, none] [] M) : XCi d 8 [.inr (.inr 77), .inl x1, .inl x2] M Q :=
  XC.ofW (Mm := (yX1_standsAsFactor, cX1_standsAsFactor, 5, (some .boolean), 2, kX1_standsAsFactor)) rfl (rcv_ok sh77) rfl rfl h
theorem uX1_standsAsFactor_0 {d : Nat} {Q : Int → yM → Prop} {M : yM} {x1 : Int} {x2 : Int} (kt : (ld M 77 7) < 40 → XW kX1_standsAsFactor d (some .boolean) (wQi Q) 11 [some (.inr (.inr 77)), some (.inl x1), some (.inl x2), none, none] [] M) (kf : (ld M 77 7) ≥ 40 → XW kX1_standsAsFactor d (some .boolean) (wQi Q) 9 [some (.inr (.inr 77)), some (.inl x1), some (.inl x2), none, none] [] M) : XW kX1_standsAsFactor d (some .boolean) (wQi Q) 0 [some (.inr (.inr 77)), some (.inl x1), some (.inl x2), none, none] [] M := by
  refine x_aload_n rfl rfl ?_
  refine x_getI rfl sh77 rfl ?_
  refine x_bipush 40 rfl (by decide) ?_
  exact x_icmplt rfl (rng_ld _ _ _) (by decide) kt kf
theorem uX1_standsAsFactor_9 {d : Nat} {Q : Int → yM → Prop} {M : yM} {x1 : Int} {x2 : Int} (k : Q 0 M) : XW kX1_standsAsFactor d (some .boolean) (wQi Q) 9 [some (.inr (.inr 77)), some (.inl x1), some (.inl x2), none, none] [] M := by
  refine x_iconst 0 rfl (by decide) ?_
  exact x_zreturn rfl (by decide) k
theorem uX1_standsAsFactor_11 {d : Nat} {Q : Int → yM → Prop} {M : yM} {x1 : Int} {x2 : Int} (k : ∀ M', M' = (put M 77 7 ((ld M 77 7) + 1)) → XW kX1_standsAsFactor d (some .boolean) (wQi Q) 21 [some (.inr (.inr 77)), some (.inl x1), some (.inl x2), none, none] [] M') : XW kX1_standsAsFactor d (some .boolean) (wQi Q) 11 [some (.inr (.inr 77)), some (.inl x1), some (.inl x2), none, none] [] M := by
  refine x_aload_n rfl rfl ?_
  refine x_dupa rfl ?_
  refine x_getI rfl sh77 rfl ?_
  refine x_iconst 1 rfl (by decide) ?_
  refine x_iadd rfl ?_
  refine x_putI rfl rfl sh77 rfl ?_
  exact k _ rfl
theorem uX1_standsAsFactor_21 {d : Nat} {Q : Int → yM → Prop} {M : yM} {x1 : Int} {x2 : Int} (h1 : -2147483648 ≤ x1 ∧ x1 < 2147483648) (kt : x1 = 45 → XW kX1_standsAsFactor d (some .boolean) (wQi Q) 33 [some (.inr (.inr 77)), some (.inl x1), some (.inl x2), none, none] [] M) (kf : x1 ≠ 45 → XW kX1_standsAsFactor d (some .boolean) (wQi Q) 27 [some (.inr (.inr 77)), some (.inl x1), some (.inl x2), none, none] [] M) : XW kX1_standsAsFactor d (some .boolean) (wQi Q) 21 [some (.inr (.inr 77)), some (.inl x1), some (.inl x2), none, none] [] M := by
  refine x_iload_n rfl rfl ?_
  refine x_bipush 45 rfl (by decide) ?_
  exact x_icmpeq rfl h1 (by decide) kt kf
theorem uX1_standsAsFactor_27 {d : Nat} {Q : Int → yM → Prop} {M : yM} {x1 : Int} {x2 : Int} (h1 : -2147483648 ≤ x1 ∧ x1 < 2147483648) (kt : x1 ≠ 126 → XW kX1_standsAsFactor d (some .boolean) (wQi Q) 39 [some (.inr (.inr 77)), some (.inl x1), some (.inl x2), none, none] [] M) (kf : x1 = 126 → XW kX1_standsAsFactor d (some .boolean) (wQi Q) 33 [some (.inr (.inr 77)), some (.inl x1), some (.inl x2), none, none] [] M) : XW kX1_standsAsFactor d (some .boolean) (wQi Q) 27 [some (.inr (.inr 77)), some (.inl x1), some (.inl x2), none, none] [] M := by
  refine x_iload_n rfl rfl ?_
  refine x_bipush 126 rfl (by decide) ?_
  exact x_icmpne rfl h1 (by decide) kt kf
theorem uX1_standsAsFactor_33 {d : Nat} {Q : Int → yM → Prop} {M : yM} {x1 : Int} {x2 : Int} (k : XCi d 10 [.inr (.inr 77), .inl x1] M (fun v M' => XW kX1_standsAsFactor (d + 1) (some .boolean) (wQi Q) 38 [some (.inr (.inr 77)), some (.inl x1), some (.inl x2), none, none] [.inl v] M')) : XW kX1_standsAsFactor (d + 1) (some .boolean) (wQi Q) 33 [some (.inr (.inr 77)), some (.inl x1), some (.inl x2), none, none] [] M := by
  refine x_aload_n rfl rfl ?_
  refine x_iload_n rfl rfl ?_
  exact x_calli (args := [.inr (.inr 77), .inl x1]) rfl rfl rfl k
theorem uX1_standsAsFactor_38 {d : Nat} {Q : Int → yM → Prop} {M : yM} {x1 : Int} {x2 : Int} {s0 : Int} (h1 : s0 = 0 ∨ s0 = 1) (k : Q s0 M) : XW kX1_standsAsFactor d (some .boolean) (wQi Q) 38 [some (.inr (.inr 77)), some (.inl x1), some (.inl x2), none, none] [.inl s0] M := by
  exact x_zreturn rfl h1 k
theorem uX1_standsAsFactor_39 {d : Nat} {Q : Int → yM → Prop} {M : yM} {x1 : Int} {x2 : Int} (h1 : -2147483648 ≤ x1 ∧ x1 < 2147483648) (kt : x1 ≠ 40 → XW kX1_standsAsFactor d (some .boolean) (wQi Q) 78 [some (.inr (.inr 77)), some (.inl x1), some (.inl x2), none, none] [] M) (kf : x1 = 40 → XW kX1_standsAsFactor d (some .boolean) (wQi Q) 45 [some (.inr (.inr 77)), some (.inl x1), some (.inl x2), none, none] [] M) : XW kX1_standsAsFactor d (some .boolean) (wQi Q) 39 [some (.inr (.inr 77)), some (.inl x1), some (.inl x2), none, none] [] M := by
  refine x_iload_n rfl rfl ?_
  refine x_bipush 40 rfl (by decide) ?_
  exact x_icmpne rfl h1 (by decide) kt kf
theorem uX1_standsAsFactor_45 {d : Nat} {Q : Int → yM → Prop} {M : yM} {x1 : Int} {x2 : Int} (k : ∀ M', M' = (put M 77 8 ((ld M 77 8) + 1)) → XW kX1_standsAsFactor d (some .boolean) (wQi Q) 55 [some (.inr (.inr 77)), some (.inl x1), some (.inl x2), none, none] [] M') : XW kX1_standsAsFactor d (some .boolean) (wQi Q) 45 [some (.inr (.inr 77)), some (.inl x1), some (.inl x2), none, none] [] M := by
  refine x_aload_n rfl rfl ?_
  refine x_dupa rfl ?_
  refine x_getI rfl sh77 rfl ?_
  refine x_iconst 1 rfl (by decide) ?_
  refine x_iadd rfl ?_
  refine x_putI rfl rfl sh77 rfl ?_
  exact k _ rfl
theorem uX1_standsAsFactor_55 {d : Nat} {Q : Int → yM → Prop} {M : yM} {x1 : Int} {x2 : Int} (kt : (ld M 77 8) > 10 → XW kX1_standsAsFactor d (some .boolean) (wQi Q) 76 [some (.inr (.inr 77)), some (.inl x1), some (.inl x2), none, none] [] M) (kf : (ld M 77 8) ≤ 10 → XW kX1_standsAsFactor d (some .boolean) (wQi Q) 64 [some (.inr (.inr 77)), some (.inl x1), some (.inl x2), none, none] [] M) : XW kX1_standsAsFactor d (some .boolean) (wQi Q) 55 [some (.inr (.inr 77)), some (.inl x1), some (.inl x2), none, none] [] M := by
  refine x_aload_n rfl rfl ?_
  refine x_getI rfl sh77 rfl ?_
  refine x_bipush 10 rfl (by decide) ?_
  exact x_icmpgt rfl (rng_ld _ _ _) (by decide) kt kf
theorem uX1_standsAsFactor_64 {d : Nat} {Q : Int → yM → Prop} {M : yM} {x1 : Int} {x2 : Int} (k : XCi d 10 [.inr (.inr 77), .inl x1] M (fun v M' => XW kX1_standsAsFactor (d + 1) (some .boolean) (wQi Q) 69 [some (.inr (.inr 77)), some (.inl x1), some (.inl x2), none, none] [.inl v] M')) : XW kX1_standsAsFactor (d + 1) (some .boolean) (wQi Q) 64 [some (.inr (.inr 77)), some (.inl x1), some (.inl x2), none, none] [] M := by
  refine x_aload_n rfl rfl ?_
  refine x_iload_n rfl rfl ?_
  exact x_calli (args := [.inr (.inr 77), .inl x1]) rfl rfl rfl k
theorem uX1_standsAsFactor_69 {d : Nat} {Q : Int → yM → Prop} {M : yM} {x1 : Int} {x2 : Int} {s0 : Int} (h1 : -2147483648 ≤ s0 ∧ s0 < 2147483648) (kt : s0 = 0 → XW kX1_standsAsFactor d (some .boolean) (wQi Q) 76 [some (.inr (.inr 77)), some (.inl x1), some (.inl x2), none, none] [] M) (kf : s0 ≠ 0 → XW kX1_standsAsFactor d (some .boolean) (wQi Q) 72 [some (.inr (.inr 77)), some (.inl x1), some (.inl x2), none, none] [] M) : XW kX1_standsAsFactor d (some .boolean) (wQi Q) 69 [some (.inr (.inr 77)), some (.inl x1), some (.inl x2), none, none] [.inl s0] M := by
  exact x_ifeq rfl h1 kt kf
theorem uX1_standsAsFactor_72 {d : Nat} {Q : Int → yM → Prop} {M : yM} {x1 : Int} {x2 : Int} (k : XW kX1_standsAsFactor d (some .boolean) (wQi Q) 77 [some (.inr (.inr 77)), some (.inl x1), some (.inl x2), none, none] [.inl 1] M) : XW kX1_standsAsFactor d (some .boolean) (wQi Q) 72 [some (.inr (.inr 77)), some (.inl x1), some (.inl x2), none, none] [] M := by
  refine x_iconst 1 rfl (by decide) ?_
  exact x_goto rfl k
theorem uX1_standsAsFactor_76 {d : Nat} {Q : Int → yM → Prop} {M : yM} {x1 : Int} {x2 : Int} (k : XW kX1_standsAsFactor d (some .boolean) (wQi Q) 77 [some (.inr (.inr 77)), some (.inl x1), some (.inl x2), none, none] [.inl 0] M) : XW kX1_standsAsFactor d (some .boolean) (wQi Q) 76 [some (.inr (.inr 77)), some (.inl x1), some (.inl x2), none, none] [] M := by
  refine x_iconst 0 rfl (by decide) ?_
  exact k
theorem uX1_standsAsFactor_77 {d : Nat} {Q : Int → yM → Prop} {M : yM} {x1 : Int} {x2 : Int} {s0 : Int} (h1 : s0 = 0 ∨ s0 = 1) (k : Q s0 M) : XW kX1_standsAsFactor d (some .boolean) (wQi Q) 77 [some (.inr (.inr 77)), some (.inl x1), some (.inl x2), none, none] [.inl s0] M := by
  exact x_zreturn rfl h1 k
theorem uX1_standsAsFactor_78 {d : Nat} {Q : Int → yM → Prop} {M : yM} {x1 : Int} {x2 : Int} (h1 : -2147483648 ≤ x1 ∧ x1 < 2147483648) (kt : x1 < 97 → XW kX1_standsAsFactor d (some .boolean) (wQi Q) 96 [some (.inr (.inr 77)), some (.inl x1), some (.inl x2), none, none] [] M) (kf : x1 ≥ 97 → XW kX1_standsAsFactor d (some .boolean) (wQi Q) 84 [some (.inr (.inr 77)), some (.inl x1), some (.inl x2), none, none] [] M) : XW kX1_standsAsFactor d (some .boolean) (wQi Q) 78 [some (.inr (.inr 77)), some (.inl x1), some (.inl x2), none, none] [] M := by
  refine x_iload_n rfl rfl ?_
  refine x_bipush 97 rfl (by decide) ?_
  exact x_icmplt rfl h1 (by decide) kt kf
theorem uX1_standsAsFactor_84 {d : Nat} {Q : Int → yM → Prop} {M : yM} {x1 : Int} {x2 : Int} (h1 : -2147483648 ≤ x1 ∧ x1 < 2147483648) (h2 : -2147483648 ≤ (97 + x2) ∧ (97 + x2) < 2147483648) (kt : x1 ≥ (97 + x2) → XW kX1_standsAsFactor d (some .boolean) (wQi Q) 96 [some (.inr (.inr 77)), some (.inl x1), some (.inl x2), none, none] [] M) (kf : x1 < (97 + x2) → XW kX1_standsAsFactor d (some .boolean) (wQi Q) 92 [some (.inr (.inr 77)), some (.inl x1), some (.inl x2), none, none] [] M) : XW kX1_standsAsFactor d (some .boolean) (wQi Q) 84 [some (.inr (.inr 77)), some (.inl x1), some (.inl x2), none, none] [] M := by
  refine x_iload_n rfl rfl ?_
  refine x_bipush 97 rfl (by decide) ?_
  refine x_iload_n rfl rfl ?_
  refine x_iadd rfl ?_
  exact x_icmpge rfl h1 h2 kt kf
theorem uX1_standsAsFactor_92 {d : Nat} {Q : Int → yM → Prop} {M : yM} {x1 : Int} {x2 : Int} (k : XW kX1_standsAsFactor d (some .boolean) (wQi Q) 97 [some (.inr (.inr 77)), some (.inl x1), some (.inl x2), none, none] [.inl 1] M) : XW kX1_standsAsFactor d (some .boolean) (wQi Q) 92 [some (.inr (.inr 77)), some (.inl x1), some (.inl x2), none, none] [] M := by
  refine x_iconst 1 rfl (by decide) ?_
  exact x_goto rfl k
theorem uX1_standsAsFactor_96 {d : Nat} {Q : Int → yM → Prop} {M : yM} {x1 : Int} {x2 : Int} (k : XW kX1_standsAsFactor d (some .boolean) (wQi Q) 97 [some (.inr (.inr 77)), some (.inl x1), some (.inl x2), none, none] [.inl 0] M) : XW kX1_standsAsFactor d (some .boolean) (wQi Q) 96 [some (.inr (.inr 77)), some (.inl x1), some (.inl x2), none, none] [] M := by
  refine x_iconst 0 rfl (by decide) ?_
  exact k
theorem uX1_standsAsFactor_97 {d : Nat} {Q : Int → yM → Prop} {M : yM} {x1 : Int} {x2 : Int} {s0 : Int} (h1 : -2147483648 ≤ x1 ∧ x1 < 2147483648) (kt : x1 < 120 → XW kX1_standsAsFactor d (some .boolean) (wQi Q) 114 [some (.inr (.inr 77)), some (.inl x1), some (.inl x2), some (.inl s0), none] [] M) (kf : x1 ≥ 120 → XW kX1_standsAsFactor d (some .boolean) (wQi Q) 104 [some (.inr (.inr 77)), some (.inl x1), some (.inl x2), some (.inl s0), none] [] M) : XW kX1_standsAsFactor d (some .boolean) (wQi Q) 97 [some (.inr (.inr 77)), some (.inl x1), some (.inl x2), none, none] [.inl s0] M := by
  refine x_istore_n rfl (Nat.le_of_ble_eq_true rfl) rfl ?_
  refine x_iload_n rfl rfl ?_
  refine x_bipush 120 rfl (by decide) ?_
  exact x_icmplt rfl h1 (by decide) kt kf
theorem uX1_standsAsFactor_104 {d : Nat} {Q : Int → yM → Prop} {M : yM} {x1 : Int} {x2 : Int} {x3 : Int} (h1 : -2147483648 ≤ x1 ∧ x1 < 2147483648) (kt : x1 > 122 → XW kX1_standsAsFactor d (some .boolean) (wQi Q) 114 [some (.inr (.inr 77)), some (.inl x1), some (.inl x2), some (.inl x3), none] [] M) (kf : x1 ≤ 122 → XW kX1_standsAsFactor d (some .boolean) (wQi Q) 110 [some (.inr (.inr 77)), some (.inl x1), some (.inl x2), some (.inl x3), none] [] M) : XW kX1_standsAsFactor d (some .boolean) (wQi Q) 104 [some (.inr (.inr 77)), some (.inl x1), some (.inl x2), some (.inl x3), none] [] M := by
  refine x_iload_n rfl rfl ?_
  refine x_bipush 122 rfl (by decide) ?_
  exact x_icmpgt rfl h1 (by decide) kt kf
theorem uX1_standsAsFactor_110 {d : Nat} {Q : Int → yM → Prop} {M : yM} {x1 : Int} {x2 : Int} {x3 : Int} (k : XW kX1_standsAsFactor d (some .boolean) (wQi Q) 115 [some (.inr (.inr 77)), some (.inl x1), some (.inl x2), some (.inl x3), none] [.inl 1] M) : XW kX1_standsAsFactor d (some .boolean) (wQi Q) 110 [some (.inr (.inr 77)), some (.inl x1), some (.inl x2), some (.inl x3), none] [] M := by
  refine x_iconst 1 rfl (by decide) ?_
  exact x_goto rfl k
theorem uX1_standsAsFactor_114 {d : Nat} {Q : Int → yM → Prop} {M : yM} {x1 : Int} {x2 : Int} {x3 : Int} (k : XW kX1_standsAsFactor d (some .boolean) (wQi Q) 115 [some (.inr (.inr 77)), some (.inl x1), some (.inl x2), some (.inl x3), none] [.inl 0] M) : XW kX1_standsAsFactor d (some .boolean) (wQi Q) 114 [some (.inr (.inr 77)), some (.inl x1), some (.inl x2), some (.inl x3), none] [] M := by
  refine x_iconst 0 rfl (by decide) ?_
  exact k
theorem uX1_standsAsFactor_115 {d : Nat} {Q : Int → yM → Prop} {M : yM} {x1 : Int} {x2 : Int} {x3 : Int} {s0 : Int} (h1 : -2147483648 ≤ x3 ∧ x3 < 2147483648) (kt : x3 ≠ 0 → XW kX1_standsAsFactor d (some .boolean) (wQi Q) 140 [some (.inr (.inr 77)), some (.inl x1), some (.inl x2), some (.inl x3), some (.inl s0)] [] M) (kf : x3 = 0 → XW kX1_standsAsFactor d (some .boolean) (wQi Q) 121 [some (.inr (.inr 77)), some (.inl x1), some (.inl x2), some (.inl x3), some (.inl s0)] [] M) : XW kX1_standsAsFactor d (some .boolean) (wQi Q) 115 [some (.inr (.inr 77)), some (.inl x1), some (.inl x2), some (.inl x3), none] [.inl s0] M := by
  refine x_istore rfl (Nat.le_of_ble_eq_true rfl) rfl ?_
  refine x_iload_n rfl rfl ?_
  exact x_ifne rfl h1 kt kf
theorem uX1_standsAsFactor_121 {d : Nat} {Q : Int → yM → Prop} {M : yM} {x1 : Int} {x2 : Int} {x3 : Int} {x4 : Int} (h1 : -2147483648 ≤ x4 ∧ x4 < 2147483648) (kt : x4 ≠ 0 → XW kX1_standsAsFactor d (some .boolean) (wQi Q) 140 [some (.inr (.inr 77)), some (.inl x1), some (.inl x2), some (.inl x3), some (.inl x4)] [] M) (kf : x4 = 0 → XW kX1_standsAsFactor d (some .boolean) (wQi Q) 126 [some (.inr (.inr 77)), some (.inl x1), some (.inl x2), some (.inl x3), some (.inl x4)] [] M) : XW kX1_standsAsFactor d (some .boolean) (wQi Q) 121 [some (.inr (.inr 77)), some (.inl x1), some (.inl x2), some (.inl x3), some (.inl x4)] [] M := by
  refine x_iload rfl rfl ?_
  exact x_ifne rfl h1 kt kf
theorem uX1_standsAsFactor_126 {d : Nat} {Q : Int → yM → Prop} {M : yM} {x1 : Int} {x2 : Int} {x3 : Int} {x4 : Int} (h1 : -2147483648 ≤ x1 ∧ x1 < 2147483648) (kt : x1 = 48 → XW kX1_standsAsFactor d (some .boolean) (wQi Q) 140 [some (.inr (.inr 77)), some (.inl x1), some (.inl x2), some (.inl x3), some (.inl x4)] [] M) (kf : x1 ≠ 48 → XW kX1_standsAsFactor d (some .boolean) (wQi Q) 132 [some (.inr (.inr 77)), some (.inl x1), some (.inl x2), some (.inl x3), some (.inl x4)] [] M) : XW kX1_standsAsFactor d (some .boolean) (wQi Q) 126 [some (.inr (.inr 77)), some (.inl x1), some (.inl x2), some (.inl x3), some (.inl x4)] [] M := by
  refine x_iload_n rfl rfl ?_
  refine x_bipush 48 rfl (by decide) ?_
  exact x_icmpeq rfl h1 (by decide) kt kf
theorem uX1_standsAsFactor_132 {d : Nat} {Q : Int → yM → Prop} {M : yM} {x1 : Int} {x2 : Int} {x3 : Int} {x4 : Int} (h1 : -2147483648 ≤ x1 ∧ x1 < 2147483648) (kt : x1 = 49 → XW kX1_standsAsFactor d (some .boolean) (wQi Q) 140 [some (.inr (.inr 77)), some (.inl x1), some (.inl x2), some (.inl x3), some (.inl x4)] [] M) (kf : x1 ≠ 49 → XW kX1_standsAsFactor d (some .boolean) (wQi Q) 138 [some (.inr (.inr 77)), some (.inl x1), some (.inl x2), some (.inl x3), some (.inl x4)] [] M) : XW kX1_standsAsFactor d (some .boolean) (wQi Q) 132 [some (.inr (.inr 77)), some (.inl x1), some (.inl x2), some (.inl x3), some (.inl x4)] [] M := by
  refine x_iload_n rfl rfl ?_
  refine x_bipush 49 rfl (by decide) ?_
  exact x_icmpeq rfl h1 (by decide) kt kf
theorem uX1_standsAsFactor_138 {d : Nat} {Q : Int → yM → Prop} {M : yM} {x1 : Int} {x2 : Int} {x3 : Int} {x4 : Int} (k : Q 0 M) : XW kX1_standsAsFactor d (some .boolean) (wQi Q) 138 [some (.inr (.inr 77)), some (.inl x1), some (.inl x2), some (.inl x3), some (.inl x4)] [] M := by
  refine x_iconst 0 rfl (by decide) ?_
  exact x_zreturn rfl (by decide) k
theorem uX1_standsAsFactor_140 {d : Nat} {Q : Int → yM → Prop} {M : yM} {x1 : Int} {x2 : Int} {x3 : Int} {x4 : Int} (h1 : -2147483648 ≤ x4 ∧ x4 < 2147483648) (kt : x4 = 0 → XW kX1_standsAsFactor d (some .boolean) (wQi Q) 160 [some (.inr (.inr 77)), some (.inl x1), some (.inl x2), some (.inl x3), some (.inl x4)] [] M) (kf : x4 ≠ 0 → XW kX1_standsAsFactor d (some .boolean) (wQi Q) 145 [some (.inr (.inr 77)), some (.inl x1), some (.inl x2), some (.inl x3), some (.inl x4)] [] M) : XW kX1_standsAsFactor d (some .boolean) (wQi Q) 140 [some (.inr (.inr 77)), some (.inl x1), some (.inl x2), some (.inl x3), some (.inl x4)] [] M := by
  refine x_iload rfl rfl ?_
  exact x_ifeq rfl h1 kt kf
theorem uX1_standsAsFactor_145 {d : Nat} {Q : Int → yM → Prop} {M : yM} {x1 : Int} {x2 : Int} {x3 : Int} {x4 : Int} (k : ∀ M', M' = (put M 77 4 (yor (ld M 77 4) (yshl 1 (x1 - 120)))) → XW kX1_standsAsFactor d (some .boolean) (wQi Q) 160 [some (.inr (.inr 77)), some (.inl x1), some (.inl x2), some (.inl x3), some (.inl x4)] [] M') : XW kX1_standsAsFactor d (some .boolean) (wQi Q) 145 [some (.inr (.inr 77)), some (.inl x1), some (.inl x2), some (.inl x3), some (.inl x4)] [] M := by
  refine x_aload_n rfl rfl ?_
  refine x_dupa rfl ?_
  refine x_getI rfl sh77 rfl ?_
  refine x_iconst 1 rfl (by decide) ?_
  refine x_iload_n rfl rfl ?_
  refine x_bipush 120 rfl (by decide) ?_
  refine x_isub rfl ?_
  refine x_ishl rfl ?_
  refine x_ior rfl ?_
  refine x_putI rfl rfl sh77 rfl ?_
  exact k _ rfl
theorem uX1_standsAsFactor_160 {d : Nat} {Q : Int → yM → Prop} {M : yM} {x1 : Int} {x2 : Int} {x3 : Int} {x4 : Int} (k : XCv d 12 [.inr (.inr 77), .inl x1] M (fun M' => XW kX1_standsAsFactor (d + 1) (some .boolean) (wQi Q) 165 [some (.inr (.inr 77)), some (.inl x1), some (.inl x2), some (.inl x3), some (.inl x4)] [] M')) : XW kX1_standsAsFactor (d + 1) (some .boolean) (wQi Q) 160 [some (.inr (.inr 77)), some (.inl x1), some (.inl x2), some (.inl x3), some (.inl x4)] [] M := by
  refine x_aload_n rfl rfl ?_
  refine x_iload_n rfl rfl ?_
  exact x_callv (args := [.inr (.inr 77), .inl x1]) rfl rfl rfl k
theorem uX1_standsAsFactor_165 {d : Nat} {Q : Int → yM → Prop} {M : yM} {x1 : Int} {x2 : Int} {x3 : Int} {x4 : Int} (k : ∀ M', M' = (put M 77 9 1) → XW kX1_standsAsFactor d (some .boolean) (wQi Q) 170 [some (.inr (.inr 77)), some (.inl x1), some (.inl x2), some (.inl x3), some (.inl x4)] [] M') : XW kX1_standsAsFactor d (some .boolean) (wQi Q) 165 [some (.inr (.inr 77)), some (.inl x1), some (.inl x2), some (.inl x3), some (.inl x4)] [] M := by
  refine x_aload_n rfl rfl ?_
  refine x_iconst 1 rfl (by decide) ?_
  refine x_putZ rfl rfl sh77 rfl (by decide) ?_
  exact k _ rfl
theorem uX1_standsAsFactor_170 {d : Nat} {Q : Int → yM → Prop} {M : yM} {x1 : Int} {x2 : Int} {x3 : Int} {x4 : Int} (k : Q 1 M) : XW kX1_standsAsFactor d (some .boolean) (wQi Q) 170 [some (.inr (.inr 77)), some (.inl x1), some (.inl x2), some (.inl x3), some (.inl x4)] [] M := by
  refine x_iconst 1 rfl (by decide) ?_
  exact x_zreturn rfl (by decide) k
theorem eX1_standsAfter {d : Nat} {Q : Int → yM → Prop} {M : yM} {x1 : Int}  (h : XW kX1_standsAfter d (some .boolean) (wQi Q) 0 [some (.inr (.inr 77)), some (.inl x1)] [] M) : XCi d 9 [.inr (.inr 77), .inl x1] M Q :=
  XC.ofW (Mm := (yX1_standsAfter, cX1_standsAfter, 2, (some .boolean), 2, kX1_standsAfter)) rfl (rcv_ok sh77) rfl rfl h
theorem uX1_standsAfter_0 {d : Nat} {Q : Int → yM → Prop} {M : yM} {x1 : Int} (h1 : -2147483648 ≤ x1 ∧ x1 < 2147483648) (kt : x1 ≠ 41 → XW kX1_standsAfter d (some .boolean) (wQi Q) 40 [some (.inr (.inr 77)), some (.inl x1)] [] M) (kf : x1 = 41 → XW kX1_standsAfter d (some .boolean) (wQi Q) 6 [some (.inr (.inr 77)), some (.inl x1)] [] M) : XW kX1_standsAfter d (some .boolean) (wQi Q) 0 [some (.inr (.inr 77)), some (.inl x1)] [] M := by
  refine x_iload_n rfl rfl ?_
  refine x_bipush 41 rfl (by decide) ?_
  exact x_icmpne rfl h1 (by decide) kt kf
theorem uX1_standsAfter_6 {d : Nat} {Q : Int → yM → Prop} {M : yM} {x1 : Int} (kt : (ld M 77 8) ≤ 0 → XW kX1_standsAfter d (some .boolean) (wQi Q) 40 [some (.inr (.inr 77)), some (.inl x1)] [] M) (kf : (ld M 77 8) > 0 → XW kX1_standsAfter d (some .boolean) (wQi Q) 13 [some (.inr (.inr 77)), some (.inl x1)] [] M) : XW kX1_standsAfter d (some .boolean) (wQi Q) 6 [some (.inr (.inr 77)), some (.inl x1)] [] M := by
  refine x_aload_n rfl rfl ?_
  refine x_getI rfl sh77 rfl ?_
  exact x_ifle rfl (rng_ld _ _ _) kt kf
theorem uX1_standsAfter_13 {d : Nat} {Q : Int → yM → Prop} {M : yM} {x1 : Int} (k : XCv d 11 [.inr (.inr 77), .inl 1] M (fun M' => XW kX1_standsAfter (d + 1) (some .boolean) (wQi Q) 18 [some (.inr (.inr 77)), some (.inl x1)] [] M')) : XW kX1_standsAfter (d + 1) (some .boolean) (wQi Q) 13 [some (.inr (.inr 77)), some (.inl x1)] [] M := by
  refine x_aload_n rfl rfl ?_
  refine x_iconst 1 rfl (by decide) ?_
  exact x_callv (args := [.inr (.inr 77), .inl 1]) rfl rfl rfl k
theorem uX1_standsAfter_18 {d : Nat} {Q : Int → yM → Prop} {M : yM} {x1 : Int} (k : ∀ M', M' = (put M 77 6 ((ld M 77 6) - 1)) → XW kX1_standsAfter d (some .boolean) (wQi Q) 28 [some (.inr (.inr 77)), some (.inl x1)] [] M') : XW kX1_standsAfter d (some .boolean) (wQi Q) 18 [some (.inr (.inr 77)), some (.inl x1)] [] M := by
  refine x_aload_n rfl rfl ?_
  refine x_dupa rfl ?_
  refine x_getI rfl sh77 rfl ?_
  refine x_iconst 1 rfl (by decide) ?_
  refine x_isub rfl ?_
  refine x_putI rfl rfl sh77 rfl ?_
  exact k _ rfl
theorem uX1_standsAfter_28 {d : Nat} {Q : Int → yM → Prop} {M : yM} {x1 : Int} (k : ∀ M', M' = (put M 77 8 ((ld M 77 8) - 1)) → XW kX1_standsAfter d (some .boolean) (wQi Q) 38 [some (.inr (.inr 77)), some (.inl x1)] [] M') : XW kX1_standsAfter d (some .boolean) (wQi Q) 28 [some (.inr (.inr 77)), some (.inl x1)] [] M := by
  refine x_aload_n rfl rfl ?_
  refine x_dupa rfl ?_
  refine x_getI rfl sh77 rfl ?_
  refine x_iconst 1 rfl (by decide) ?_
  refine x_isub rfl ?_
  refine x_putI rfl rfl sh77 rfl ?_
  exact k _ rfl
theorem uX1_standsAfter_38 {d : Nat} {Q : Int → yM → Prop} {M : yM} {x1 : Int} (k : Q 1 M) : XW kX1_standsAfter d (some .boolean) (wQi Q) 38 [some (.inr (.inr 77)), some (.inl x1)] [] M := by
  refine x_iconst 1 rfl (by decide) ?_
  exact x_zreturn rfl (by decide) k
theorem uX1_standsAfter_40 {d : Nat} {Q : Int → yM → Prop} {M : yM} {x1 : Int} (h1 : -2147483648 ≤ x1 ∧ x1 < 2147483648) (kt : x1 = 43 → XW kX1_standsAfter d (some .boolean) (wQi Q) 60 [some (.inr (.inr 77)), some (.inl x1)] [] M) (kf : x1 ≠ 43 → XW kX1_standsAfter d (some .boolean) (wQi Q) 46 [some (.inr (.inr 77)), some (.inl x1)] [] M) : XW kX1_standsAfter d (some .boolean) (wQi Q) 40 [some (.inr (.inr 77)), some (.inl x1)] [] M := by
  refine x_iload_n rfl rfl ?_
  refine x_bipush 43 rfl (by decide) ?_
  exact x_icmpeq rfl h1 (by decide) kt kf
theorem uX1_standsAfter_46 {d : Nat} {Q : Int → yM → Prop} {M : yM} {x1 : Int} (h1 : -2147483648 ≤ x1 ∧ x1 < 2147483648) (kt : x1 = 38 → XW kX1_standsAfter d (some .boolean) (wQi Q) 60 [some (.inr (.inr 77)), some (.inl x1)] [] M) (kf : x1 ≠ 38 → XW kX1_standsAfter d (some .boolean) (wQi Q) 52 [some (.inr (.inr 77)), some (.inl x1)] [] M) : XW kX1_standsAfter d (some .boolean) (wQi Q) 46 [some (.inr (.inr 77)), some (.inl x1)] [] M := by
  refine x_iload_n rfl rfl ?_
  refine x_bipush 38 rfl (by decide) ?_
  exact x_icmpeq rfl h1 (by decide) kt kf
theorem uX1_standsAfter_52 {d : Nat} {Q : Int → yM → Prop} {M : yM} {x1 : Int} (h1 : -2147483648 ≤ x1 ∧ x1 < 2147483648) (kt : x1 = 59 → XW kX1_standsAfter d (some .boolean) (wQi Q) 60 [some (.inr (.inr 77)), some (.inl x1)] [] M) (kf : x1 ≠ 59 → XW kX1_standsAfter d (some .boolean) (wQi Q) 58 [some (.inr (.inr 77)), some (.inl x1)] [] M) : XW kX1_standsAfter d (some .boolean) (wQi Q) 52 [some (.inr (.inr 77)), some (.inl x1)] [] M := by
  refine x_iload_n rfl rfl ?_
  refine x_bipush 59 rfl (by decide) ?_
  exact x_icmpeq rfl h1 (by decide) kt kf
theorem uX1_standsAfter_58 {d : Nat} {Q : Int → yM → Prop} {M : yM} {x1 : Int} (k : Q 0 M) : XW kX1_standsAfter d (some .boolean) (wQi Q) 58 [some (.inr (.inr 77)), some (.inl x1)] [] M := by
  refine x_iconst 0 rfl (by decide) ?_
  exact x_zreturn rfl (by decide) k
theorem uX1_standsAfter_60 {d : Nat} {Q : Int → yM → Prop} {M : yM} {x1 : Int} (k : XCi d 13 [.inl x1] M (fun v M' => XW kX1_standsAfter (d + 1) (some .boolean) (wQi Q) 65 [some (.inr (.inr 77)), some (.inl x1)] [.inl v, .inr (.inr 77)] M')) : XW kX1_standsAfter (d + 1) (some .boolean) (wQi Q) 60 [some (.inr (.inr 77)), some (.inl x1)] [] M := by
  refine x_aload_n rfl rfl ?_
  refine x_iload_n rfl rfl ?_
  exact x_calli (args := [.inl x1]) rfl rfl rfl k
theorem uX1_standsAfter_65 {d : Nat} {Q : Int → yM → Prop} {M : yM} {x1 : Int} {s0 : Int} (k : XCv d 11 [.inr (.inr 77), .inl s0] M (fun M' => XW kX1_standsAfter (d + 1) (some .boolean) (wQi Q) 68 [some (.inr (.inr 77)), some (.inl x1)] [] M')) : XW kX1_standsAfter (d + 1) (some .boolean) (wQi Q) 65 [some (.inr (.inr 77)), some (.inl x1)] [.inl s0, .inr (.inr 77)] M := by
  exact x_callv (args := [.inr (.inr 77), .inl s0]) rfl rfl rfl k
theorem uX1_standsAfter_68 {d : Nat} {Q : Int → yM → Prop} {M : yM} {x1 : Int} (k : ∀ M', M' = (put M 77 9 0) → XW kX1_standsAfter d (some .boolean) (wQi Q) 73 [some (.inr (.inr 77)), some (.inl x1)] [] M') : XW kX1_standsAfter d (some .boolean) (wQi Q) 68 [some (.inr (.inr 77)), some (.inl x1)] [] M := by
  refine x_aload_n rfl rfl ?_
  refine x_iconst 0 rfl (by decide) ?_
  refine x_putZ rfl rfl sh77 rfl (by decide) ?_
  exact k _ rfl
theorem uX1_standsAfter_73 {d : Nat} {Q : Int → yM → Prop} {M : yM} {x1 : Int} (k : XCi d 10 [.inr (.inr 77), .inl x1] M (fun v M' => XW kX1_standsAfter (d + 1) (some .boolean) (wQi Q) 78 [some (.inr (.inr 77)), some (.inl x1)] [.inl v] M')) : XW kX1_standsAfter (d + 1) (some .boolean) (wQi Q) 73 [some (.inr (.inr 77)), some (.inl x1)] [] M := by
  refine x_aload_n rfl rfl ?_
  refine x_iload_n rfl rfl ?_
  exact x_calli (args := [.inr (.inr 77), .inl x1]) rfl rfl rfl k
theorem uX1_standsAfter_78 {d : Nat} {Q : Int → yM → Prop} {M : yM} {x1 : Int} {s0 : Int} (h1 : s0 = 0 ∨ s0 = 1) (k : Q s0 M) : XW kX1_standsAfter d (some .boolean) (wQi Q) 78 [some (.inr (.inr 77)), some (.inl x1)] [.inl s0] M := by
  exact x_zreturn rfl h1 k
theorem eX1_waits {d : Nat} {Q : Int → yM → Prop} {M : yM} {x1 : Int}  (h : XW kX1_waits d (some .boolean) (wQi Q) 0 [some (.inr (.inr 77)), some (.inl x1)] [] M) : XCi d 10 [.inr (.inr 77), .inl x1] M Q :=
  XC.ofW (Mm := (yX1_waits, cX1_waits, 2, (some .boolean), 2, kX1_waits)) rfl (rcv_ok sh77) rfl rfl h
theorem uX1_waits_0 {d : Nat} {Q : Int → yM → Prop} {M : yM} {x1 : Int} (kt : (ld M 77 6) < 60 → XW kX1_waits d (some .boolean) (wQi Q) 11 [some (.inr (.inr 77)), some (.inl x1)] [] M) (kf : (ld M 77 6) ≥ 60 → XW kX1_waits d (some .boolean) (wQi Q) 9 [some (.inr (.inr 77)), some (.inl x1)] [] M) : XW kX1_waits d (some .boolean) (wQi Q) 0 [some (.inr (.inr 77)), some (.inl x1)] [] M := by
  refine x_aload_n rfl rfl ?_
  refine x_getI rfl sh77 rfl ?_
  refine x_bipush 60 rfl (by decide) ?_
  exact x_icmplt rfl (rng_ld _ _ _) (by decide) kt kf
theorem uX1_waits_9 {d : Nat} {Q : Int → yM → Prop} {M : yM} {x1 : Int} (k : Q 0 M) : XW kX1_waits d (some .boolean) (wQi Q) 9 [some (.inr (.inr 77)), some (.inl x1)] [] M := by
  refine x_iconst 0 rfl (by decide) ?_
  exact x_zreturn rfl (by decide) k
theorem uX1_waits_11 {d : Nat} {Q : Int → yM → Prop} {M : yM} {x1 : Int} (h1 : 0 ≤ (ld M 77 6) ∧ (ld M 77 6) < 60) (k : ∀ M', M' = (put M 80 (ld M 77 6) x1) → XW kX1_waits d (some .boolean) (wQi Q) 21 [some (.inr (.inr 77)), some (.inl x1)] [] M') : XW kX1_waits d (some .boolean) (wQi Q) 11 [some (.inr (.inr 77)), some (.inl x1)] [] M := by
  refine x_aload_n rfl rfl ?_
  refine x_getR rfl sh77 rfl ?_
  refine x_aload_n rfl rfl ?_
  refine x_getI rfl sh77 rfl ?_
  refine x_iload_n rfl rfl ?_
  refine x_iastore rfl ⟨sh80, Nat.le_of_ble_eq_true rfl⟩ h1  ?_
  exact k _ rfl
theorem uX1_waits_21 {d : Nat} {Q : Int → yM → Prop} {M : yM} {x1 : Int} (k : ∀ M', M' = (put M 77 6 ((ld M 77 6) + 1)) → XW kX1_waits d (some .boolean) (wQi Q) 31 [some (.inr (.inr 77)), some (.inl x1)] [] M') : XW kX1_waits d (some .boolean) (wQi Q) 21 [some (.inr (.inr 77)), some (.inl x1)] [] M := by
  refine x_aload_n rfl rfl ?_
  refine x_dupa rfl ?_
  refine x_getI rfl sh77 rfl ?_
  refine x_iconst 1 rfl (by decide) ?_
  refine x_iadd rfl ?_
  refine x_putI rfl rfl sh77 rfl ?_
  exact k _ rfl
theorem uX1_waits_31 {d : Nat} {Q : Int → yM → Prop} {M : yM} {x1 : Int} (k : Q 1 M) : XW kX1_waits d (some .boolean) (wQi Q) 31 [some (.inr (.inr 77)), some (.inl x1)] [] M := by
  refine x_iconst 1 rfl (by decide) ?_
  exact x_zreturn rfl (by decide) k
theorem eX1_writeWaiting {d : Nat} {Q : yM → Prop} {M : yM} {x1 : Int}  (h : XW kX1_writeWaiting d none (wQv Q) 0 [some (.inr (.inr 77)), some (.inl x1)] [] M) : XCv d 11 [.inr (.inr 77), .inl x1] M Q :=
  XC.ofW (Mm := (yX1_writeWaiting, cX1_writeWaiting, 2, none, 2, kX1_writeWaiting)) rfl (rcv_ok sh77) rfl rfl h
theorem uX1_writeWaiting_0 {d : Nat} {Q : yM → Prop} {M : yM} {x1 : Int} (kt : (ld M 77 6) ≤ 0 → XW kX1_writeWaiting d none (wQv Q) 51 [some (.inr (.inr 77)), some (.inl x1)] [] M) (kf : (ld M 77 6) > 0 → XW kX1_writeWaiting d none (wQv Q) 7 [some (.inr (.inr 77)), some (.inl x1)] [] M) : XW kX1_writeWaiting d none (wQv Q) 0 [some (.inr (.inr 77)), some (.inl x1)] [] M := by
  refine x_aload_n rfl rfl ?_
  refine x_getI rfl sh77 rfl ?_
  exact x_ifle rfl (rng_ld _ _ _) kt kf
theorem uX1_writeWaiting_7 {d : Nat} {Q : yM → Prop} {M : yM} {x1 : Int} (h1 : 0 ≤ ((ld M 77 6) - 1) ∧ ((ld M 77 6) - 1) < 60) (k : XCi d 13 [.inl (ld M 80 ((ld M 77 6) - 1))] M (fun v M' => XW kX1_writeWaiting (d + 1) none (wQv Q) 21 [some (.inr (.inr 77)), some (.inl x1)] [.inl v] M')) : XW kX1_writeWaiting (d + 1) none (wQv Q) 7 [some (.inr (.inr 77)), some (.inl x1)] [] M := by
  refine x_aload_n rfl rfl ?_
  refine x_getR rfl sh77 rfl ?_
  refine x_aload_n rfl rfl ?_
  refine x_getI rfl sh77 rfl ?_
  refine x_iconst 1 rfl (by decide) ?_
  refine x_isub rfl ?_
  refine x_iaload rfl ⟨sh80, Nat.le_of_ble_eq_true rfl⟩ h1 ?_
  exact x_calli (args := [.inl (ld M 80 ((ld M 77 6) - 1))]) rfl rfl rfl k
theorem uX1_writeWaiting_21 {d : Nat} {Q : yM → Prop} {M : yM} {x1 : Int} {s0 : Int} (h1 : -2147483648 ≤ s0 ∧ s0 < 2147483648) (h2 : -2147483648 ≤ x1 ∧ x1 < 2147483648) (kt : s0 < x1 → XW kX1_writeWaiting d none (wQv Q) 51 [some (.inr (.inr 77)), some (.inl x1)] [] M) (kf : s0 ≥ x1 → XW kX1_writeWaiting d none (wQv Q) 25 [some (.inr (.inr 77)), some (.inl x1)] [] M) : XW kX1_writeWaiting d none (wQv Q) 21 [some (.inr (.inr 77)), some (.inl x1)] [.inl s0] M := by
  refine x_iload_n rfl rfl ?_
  exact x_icmplt rfl h1 h2 kt kf
theorem uX1_writeWaiting_25 {d : Nat} {Q : yM → Prop} {M : yM} {x1 : Int} (k : ∀ M', M' = (put M 77 6 ((ld M 77 6) - 1)) → XW kX1_writeWaiting d none (wQv Q) 35 [some (.inr (.inr 77)), some (.inl x1)] [] M') : XW kX1_writeWaiting d none (wQv Q) 25 [some (.inr (.inr 77)), some (.inl x1)] [] M := by
  refine x_aload_n rfl rfl ?_
  refine x_dupa rfl ?_
  refine x_getI rfl sh77 rfl ?_
  refine x_iconst 1 rfl (by decide) ?_
  refine x_isub rfl ?_
  refine x_putI rfl rfl sh77 rfl ?_
  exact k _ rfl
theorem uX1_writeWaiting_35 {d : Nat} {Q : yM → Prop} {M : yM} {x1 : Int} (h1 : 0 ≤ (ld M 77 6) ∧ (ld M 77 6) < 60) (k : XCv d 12 [.inr (.inr 77), .inl (ld M 80 (ld M 77 6))] M (fun M' => XW kX1_writeWaiting (d + 1) none (wQv Q) 48 [some (.inr (.inr 77)), some (.inl x1)] [] M')) : XW kX1_writeWaiting (d + 1) none (wQv Q) 35 [some (.inr (.inr 77)), some (.inl x1)] [] M := by
  refine x_aload_n rfl rfl ?_
  refine x_aload_n rfl rfl ?_
  refine x_getR rfl sh77 rfl ?_
  refine x_aload_n rfl rfl ?_
  refine x_getI rfl sh77 rfl ?_
  refine x_iaload rfl ⟨sh80, Nat.le_of_ble_eq_true rfl⟩ h1 ?_
  exact x_callv (args := [.inr (.inr 77), .inl (ld M 80 (ld M 77 6))]) rfl rfl rfl k
theorem uX1_writeWaiting_48 {d : Nat} {Q : yM → Prop} {M : yM} {x1 : Int} (k : XW kX1_writeWaiting d none (wQv Q) 0 [some (.inr (.inr 77)), some (.inl x1)] [] M) : XW kX1_writeWaiting d none (wQv Q) 48 [some (.inr (.inr 77)), some (.inl x1)] [] M := by
  exact x_goto rfl k
theorem uX1_writeWaiting_51 {d : Nat} {Q : yM → Prop} {M : yM} {x1 : Int} (k : Q M) : XW kX1_writeWaiting d none (wQv Q) 51 [some (.inr (.inr 77)), some (.inl x1)] [] M := by
  exact x_return rfl k
theorem eX1_write {d : Nat} {Q : yM → Prop} {M : yM} {x1 : Int}  (h : XW kX1_write d none (wQv Q) 0 [some (.inr (.inr 77)), some (.inl x1)] [] M) : XCv d 12 [.inr (.inr 77), .inl x1] M Q :=
  XC.ofW (Mm := (yX1_write, cX1_write, 2, none, 2, kX1_write)) rfl (rcv_ok sh77) rfl rfl h
theorem uX1_write_0 {d : Nat} {Q : yM → Prop} {M : yM} {x1 : Int} (kt : (ld M 77 3) ≥ 60 → XW kX1_write d none (wQv Q) 29 [some (.inr (.inr 77)), some (.inl x1)] [] M) (kf : (ld M 77 3) < 60 → XW kX1_write d none (wQv Q) 9 [some (.inr (.inr 77)), some (.inl x1)] [] M) : XW kX1_write d none (wQv Q) 0 [some (.inr (.inr 77)), some (.inl x1)] [] M := by
  refine x_aload_n rfl rfl ?_
  refine x_getI rfl sh77 rfl ?_
  refine x_bipush 60 rfl (by decide) ?_
  exact x_icmpge rfl (rng_ld _ _ _) (by decide) kt kf
theorem uX1_write_9 {d : Nat} {Q : yM → Prop} {M : yM} {x1 : Int} (h1 : 0 ≤ (ld M 77 3) ∧ (ld M 77 3) < 60) (k : ∀ M', M' = (put M 79 (ld M 77 3) x1) → XW kX1_write d none (wQv Q) 19 [some (.inr (.inr 77)), some (.inl x1)] [] M') : XW kX1_write d none (wQv Q) 9 [some (.inr (.inr 77)), some (.inl x1)] [] M := by
  refine x_aload_n rfl rfl ?_
  refine x_getR rfl sh77 rfl ?_
  refine x_aload_n rfl rfl ?_
  refine x_getI rfl sh77 rfl ?_
  refine x_iload_n rfl rfl ?_
  refine x_iastore rfl ⟨sh79, Nat.le_of_ble_eq_true rfl⟩ h1  ?_
  exact k _ rfl
theorem uX1_write_19 {d : Nat} {Q : yM → Prop} {M : yM} {x1 : Int} (k : ∀ M', M' = (put M 77 3 ((ld M 77 3) + 1)) → XW kX1_write d none (wQv Q) 29 [some (.inr (.inr 77)), some (.inl x1)] [] M') : XW kX1_write d none (wQv Q) 19 [some (.inr (.inr 77)), some (.inl x1)] [] M := by
  refine x_aload_n rfl rfl ?_
  refine x_dupa rfl ?_
  refine x_getI rfl sh77 rfl ?_
  refine x_iconst 1 rfl (by decide) ?_
  refine x_iadd rfl ?_
  refine x_putI rfl rfl sh77 rfl ?_
  exact k _ rfl
theorem uX1_write_29 {d : Nat} {Q : yM → Prop} {M : yM} {x1 : Int} (k : Q M) : XW kX1_write d none (wQv Q) 29 [some (.inr (.inr 77)), some (.inl x1)] [] M := by
  exact x_return rfl k
theorem eX1_strength {d : Nat} {Q : Int → yM → Prop} {M : yM} {x0 : Int}  (h : XW kX1_strength d (some .int) (wQi Q) 0 [some (.inl x0)] [] M) : XCi d 13 [.inl x0] M Q :=
  XC.ofW (Mm := (yX1_strength, cX1_strength, 1, (some .int), 0, kX1_strength)) rfl rfl rfl rfl h
theorem uX1_strength_0 {d : Nat} {Q : Int → yM → Prop} {M : yM} {x0 : Int} (h1 : -2147483648 ≤ x0 ∧ x0 < 2147483648) (c0 : x0 = 38 → XW kX1_strength d (some .int) (wQi Q) 48 [some (.inl x0)] [] M) (c1 : x0 = 40 → XW kX1_strength d (some .int) (wQi Q) 44 [some (.inl x0)] [] M) (c2 : x0 = 43 → XW kX1_strength d (some .int) (wQi Q) 46 [some (.inl x0)] [] M) (c3 : x0 = 59 → XW kX1_strength d (some .int) (wQi Q) 50 [some (.inl x0)] [] M) (df : x0 ≠ 38 → x0 ≠ 40 → x0 ≠ 43 → x0 ≠ 59 → XW kX1_strength d (some .int) (wQi Q) 52 [some (.inl x0)] [] M) : XW kX1_strength d (some .int) (wQi Q) 0 [some (.inl x0)] [] M := by
  refine x_iload_n rfl rfl ?_
  by_cases q0 : x0 = 38
  · exact x_lsw rfl (by rw [q0]; rfl) (c0 q0)
  by_cases q1 : x0 = 40
  · exact x_lsw rfl (by rw [q1]; rfl) (c1 q1)
  by_cases q2 : x0 = 43
  · exact x_lsw rfl (by rw [q2]; rfl) (c2 q2)
  by_cases q3 : x0 = 59
  · exact x_lsw rfl (by rw [q3]; rfl) (c3 q3)
  exact x_lsw rfl (by rw [Int32.toInt_ofInt_of_le h1.1 h1.2]; simp [Jvm.Op.lookupswitch.offset, Ne.symm q0, Ne.symm q1, Ne.symm q2, Ne.symm q3]) (df q0 q1 q2 q3)
theorem uX1_strength_44 {d : Nat} {Q : Int → yM → Prop} {M : yM} {x0 : Int} (k : Q 0 M) : XW kX1_strength d (some .int) (wQi Q) 44 [some (.inl x0)] [] M := by
  refine x_iconst 0 rfl (by decide) ?_
  exact x_ireturn rfl k
theorem uX1_strength_46 {d : Nat} {Q : Int → yM → Prop} {M : yM} {x0 : Int} (k : Q 1 M) : XW kX1_strength d (some .int) (wQi Q) 46 [some (.inl x0)] [] M := by
  refine x_iconst 1 rfl (by decide) ?_
  exact x_ireturn rfl k
theorem uX1_strength_48 {d : Nat} {Q : Int → yM → Prop} {M : yM} {x0 : Int} (k : Q 2 M) : XW kX1_strength d (some .int) (wQi Q) 48 [some (.inl x0)] [] M := by
  refine x_iconst 2 rfl (by decide) ?_
  exact x_ireturn rfl k
theorem uX1_strength_50 {d : Nat} {Q : Int → yM → Prop} {M : yM} {x0 : Int} (k : Q 3 M) : XW kX1_strength d (some .int) (wQi Q) 50 [some (.inl x0)] [] M := by
  refine x_iconst 3 rfl (by decide) ?_
  exact x_ireturn rfl k
theorem uX1_strength_52 {d : Nat} {Q : Int → yM → Prop} {M : yM} {x0 : Int} (k : Q 4 M) : XW kX1_strength d (some .int) (wQi Q) 52 [some (.inl x0)] [] M := by
  refine x_iconst 4 rfl (by decide) ?_
  exact x_ireturn rfl k
theorem eX2_evaluate {d : Nat} {Q : Int → yM → Prop} {M : yM} {x1 : Nat} {x2 : Int} {x3 : Int} {x4 : Int}  (h : XW kX2_evaluate d (some .int) (wQi Q) 0 [some (.inr (.inr 81)), some (.inr (.inr x1)), some (.inl x2), some (.inl x3), some (.inl x4), none, none, none, none] [] M) : XCi d 15 [.inr (.inr 81), .inr (.inr x1), .inl x2, .inl x3, .inl x4] M Q :=
  XC.ofW (Mm := (yX2_evaluate, cX2_evaluate, 9, (some .int), 3, kX2_evaluate)) rfl (rcv_ok sh81) rfl rfl h
theorem uX2_evaluate_0 {d : Nat} {Q : Int → yM → Prop} {M : yM} {x1 : Nat} {x2 : Int} {x3 : Int} {x4 : Int} (k : XW kX2_evaluate d (some .int) (wQi Q) 6 [some (.inr (.inr 81)), some (.inr (.inr x1)), some (.inl x2), some (.inl x3), some (.inl x4), some (.inl 0), some (.inl 0), none, none] [] M) : XW kX2_evaluate d (some .int) (wQi Q) 0 [some (.inr (.inr 81)), some (.inr (.inr x1)), some (.inl x2), some (.inl x3), some (.inl x4), none, none, none, none] [] M := by
  refine x_iconst 0 rfl (by decide) ?_
  refine x_istore rfl (Nat.le_of_ble_eq_true rfl) rfl ?_
  refine x_iconst 0 rfl (by decide) ?_
  refine x_istore rfl (Nat.le_of_ble_eq_true rfl) rfl ?_
  exact k
theorem uX2_evaluate_6 {d : Nat} {Q : Int → yM → Prop} {M : yM} {x1 : Nat} {x2 : Int} {x3 : Int} {x4 : Int} {x5 : Int} {x6 : Int} {wx7 : Option yV} {wx8 : Option yV} (h1 : termSh x1) (h2 : -2147483648 ≤ x6 ∧ x6 < 2147483648) (kt : x6 ≥ (ld M x1 1) → XW kX2_evaluate d (some .int) (wQi Q) 201 [some (.inr (.inr 81)), some (.inr (.inr x1)), some (.inl x2), some (.inl x3), some (.inl x4), some (.inl x5), some (.inl x6), wx7, wx8] [] M) (kf : x6 < (ld M x1 1) → XW kX2_evaluate d (some .int) (wQi Q) 15 [some (.inr (.inr 81)), some (.inr (.inr x1)), some (.inl x2), some (.inl x3), some (.inl x4), some (.inl x5), some (.inl x6), wx7, wx8] [] M) : XW kX2_evaluate d (some .int) (wQi Q) 6 [some (.inr (.inr 81)), some (.inr (.inr x1)), some (.inl x2), some (.inl x3), some (.inl x4), some (.inl x5), some (.inl x6), wx7, wx8] [] M := by
  refine x_iload rfl rfl ?_
  refine x_aload_n rfl rfl ?_
  refine x_getI rfl h1.1 rfl ?_
  exact x_icmpge rfl h2 (rng_ld _ _ _) kt kf
theorem uX2_evaluate_15 {d : Nat} {Q : Int → yM → Prop} {M : yM} {x1 : Nat} {x2 : Int} {x3 : Int} {x4 : Int} {x5 : Int} {x6 : Int} {wx7 : Option yV} {wx8 : Option yV} (h1 : -2147483648 ≤ x6 ∧ x6 < 2147483648) (kt : x6 ≥ 60 → XW kX2_evaluate d (some .int) (wQi Q) 201 [some (.inr (.inr 81)), some (.inr (.inr x1)), some (.inl x2), some (.inl x3), some (.inl x4), some (.inl x5), some (.inl x6), wx7, wx8] [] M) (kf : x6 < 60 → XW kX2_evaluate d (some .int) (wQi Q) 22 [some (.inr (.inr 81)), some (.inr (.inr x1)), some (.inl x2), some (.inl x3), some (.inl x4), some (.inl x5), some (.inl x6), wx7, wx8] [] M) : XW kX2_evaluate d (some .int) (wQi Q) 15 [some (.inr (.inr 81)), some (.inr (.inr x1)), some (.inl x2), some (.inl x3), some (.inl x4), some (.inl x5), some (.inl x6), wx7, wx8] [] M := by
  refine x_iload rfl rfl ?_
  refine x_bipush 60 rfl (by decide) ?_
  exact x_icmpge rfl h1 (by decide) kt kf
theorem uX2_evaluate_22 {d : Nat} {Q : Int → yM → Prop} {M : yM} {x1 : Nat} {x2 : Int} {x3 : Int} {x4 : Int} {x5 : Int} {x6 : Int} {wx7 : Option yV} {wx8 : Option yV} (h1 : termSh x1) (h2 : 0 ≤ x6 ∧ x6 < 60) (kt : (ld M (x1 + 1) x6) = 45 → XW kX2_evaluate d (some .int) (wQi Q) 45 [some (.inr (.inr 81)), some (.inr (.inr x1)), some (.inl x2), some (.inl x3), some (.inl x4), some (.inl x5), some (.inl x6), some (.inl (ld M (x1 + 1) x6)), wx8] [] M) (kf : (ld M (x1 + 1) x6) ≠ 45 → XW kX2_evaluate d (some .int) (wQi Q) 38 [some (.inr (.inr 81)), some (.inr (.inr x1)), some (.inl x2), some (.inl x3), some (.inl x4), some (.inl x5), some (.inl x6), some (.inl (ld M (x1 + 1) x6)), wx8] [] M) : XW kX2_evaluate d (some .int) (wQi Q) 22 [some (.inr (.inr 81)), some (.inr (.inr x1)), some (.inl x2), some (.inl x3), some (.inl x4), some (.inl x5), some (.inl x6), wx7, wx8] [] M := by
  refine x_aload_n rfl rfl ?_
  refine x_getR rfl h1.1 rfl ?_
  refine x_iload rfl rfl ?_
  refine x_iaload rfl h1.2 h2 ?_
  refine x_istore rfl (Nat.le_of_ble_eq_true rfl) rfl ?_
  refine x_iload rfl rfl ?_
  refine x_bipush 45 rfl (by decide) ?_
  exact x_icmpeq rfl (rng_ld _ _ _) (by decide) kt kf
theorem uX2_evaluate_38 {d : Nat} {Q : Int → yM → Prop} {M : yM} {x1 : Nat} {x2 : Int} {x3 : Int} {x4 : Int} {x5 : Int} {x6 : Int} {x7 : Int} {wx8 : Option yV} (h1 : -2147483648 ≤ x7 ∧ x7 < 2147483648) (kt : x7 ≠ 126 → XW kX2_evaluate d (some .int) (wQi Q) 104 [some (.inr (.inr 81)), some (.inr (.inr x1)), some (.inl x2), some (.inl x3), some (.inl x4), some (.inl x5), some (.inl x6), some (.inl x7), wx8] [] M) (kf : x7 = 126 → XW kX2_evaluate d (some .int) (wQi Q) 45 [some (.inr (.inr 81)), some (.inr (.inr x1)), some (.inl x2), some (.inl x3), some (.inl x4), some (.inl x5), some (.inl x6), some (.inl x7), wx8] [] M) : XW kX2_evaluate d (some .int) (wQi Q) 38 [some (.inr (.inr 81)), some (.inr (.inr x1)), some (.inl x2), some (.inl x3), some (.inl x4), some (.inl x5), some (.inl x6), some (.inl x7), wx8] [] M := by
  refine x_iload rfl rfl ?_
  refine x_bipush 126 rfl (by decide) ?_
  exact x_icmpne rfl h1 (by decide) kt kf
theorem uX2_evaluate_45 {d : Nat} {Q : Int → yM → Prop} {M : yM} {x1 : Nat} {x2 : Int} {x3 : Int} {x4 : Int} {x5 : Int} {x6 : Int} {x7 : Int} {wx8 : Option yV} (h1 : -2147483648 ≤ x5 ∧ x5 < 2147483648) (kt : x5 ≤ 0 → XW kX2_evaluate d (some .int) (wQi Q) 195 [some (.inr (.inr 81)), some (.inr (.inr x1)), some (.inl x2), some (.inl x3), some (.inl x4), some (.inl x5), some (.inl x6), some (.inl x7), wx8] [] M) (kf : x5 > 0 → XW kX2_evaluate d (some .int) (wQi Q) 50 [some (.inr (.inr 81)), some (.inr (.inr x1)), some (.inl x2), some (.inl x3), some (.inl x4), some (.inl x5), some (.inl x6), some (.inl x7), wx8] [] M) : XW kX2_evaluate d (some .int) (wQi Q) 45 [some (.inr (.inr 81)), some (.inr (.inr x1)), some (.inl x2), some (.inl x3), some (.inl x4), some (.inl x5), some (.inl x6), some (.inl x7), wx8] [] M := by
  refine x_iload rfl rfl ?_
  exact x_ifle rfl h1 kt kf
theorem uX2_evaluate_50 {d : Nat} {Q : Int → yM → Prop} {M : yM} {x1 : Nat} {x2 : Int} {x3 : Int} {x4 : Int} {x5 : Int} {x6 : Int} {x7 : Int} {wx8 : Option yV} (h1 : 0 ≤ (x5 - 1) ∧ (x5 - 1) < 60) (h2 : -2147483648 ≤ x7 ∧ x7 < 2147483648) (kt : x7 ≠ 45 → XW kX2_evaluate d (some .int) (wQi Q) 91 [some (.inr (.inr 81)), some (.inr (.inr x1)), some (.inl x2), some (.inl x3), some (.inl x4), some (.inl x5), some (.inl x6), some (.inl x7), some (.inl (ld M 82 (x5 - 1)))] [.inl (x5 - 1), .inr (.inr 82)] M) (kf : x7 = 45 → XW kX2_evaluate d (some .int) (wQi Q) 76 [some (.inr (.inr 81)), some (.inr (.inr x1)), some (.inl x2), some (.inl x3), some (.inl x4), some (.inl x5), some (.inl x6), some (.inl x7), some (.inl (ld M 82 (x5 - 1)))] [.inl (x5 - 1), .inr (.inr 82)] M) : XW kX2_evaluate d (some .int) (wQi Q) 50 [some (.inr (.inr 81)), some (.inr (.inr x1)), some (.inl x2), some (.inl x3), some (.inl x4), some (.inl x5), some (.inl x6), some (.inl x7), wx8] [] M := by
  refine x_aload_n rfl rfl ?_
  refine x_getR rfl sh81 rfl ?_
  refine x_iload rfl rfl ?_
  refine x_iconst 1 rfl (by decide) ?_
  refine x_isub rfl ?_
  refine x_iaload rfl ⟨sh82, Nat.le_of_ble_eq_true rfl⟩ h1 ?_
  refine x_istore rfl (Nat.le_of_ble_eq_true rfl) rfl ?_
  refine x_aload_n rfl rfl ?_
  refine x_getR rfl sh81 rfl ?_
  refine x_iload rfl rfl ?_
  refine x_iconst 1 rfl (by decide) ?_
  refine x_isub rfl ?_
  refine x_iload rfl rfl ?_
  refine x_bipush 45 rfl (by decide) ?_
  exact x_icmpne rfl h2 (by decide) kt kf
theorem uX2_evaluate_76 {d : Nat} {Q : Int → yM → Prop} {M : yM} {x1 : Nat} {x2 : Int} {x3 : Int} {x4 : Int} {x5 : Int} {x6 : Int} {x7 : Int} {x8 : Int} {s0 : Int} (k : XCi d 60 [.inr (.inr 1)] M (fun v M' => XW kX2_evaluate (d + 1) (some .int) (wQi Q) 83 [some (.inr (.inr 81)), some (.inr (.inr x1)), some (.inl x2), some (.inl x3), some (.inl x4), some (.inl x5), some (.inl x6), some (.inl x7), some (.inl x8)] [.inl v, .inl s0, .inr (.inr 82)] M')) : XW kX2_evaluate (d + 1) (some .int) (wQi Q) 76 [some (.inr (.inr 81)), some (.inr (.inr x1)), some (.inl x2), some (.inl x3), some (.inl x4), some (.inl x5), some (.inl x6), some (.inl x7), some (.inl x8)] [.inl s0, .inr (.inr 82)] M := by
  refine x_aload_n rfl rfl ?_
  refine x_getR rfl sh81 rfl ?_
  exact x_calli (args := [.inr (.inr 1)]) rfl rfl rfl k
theorem uX2_evaluate_83 {d : Nat} {Q : Int → yM → Prop} {M : yM} {x1 : Nat} {x2 : Int} {x3 : Int} {x4 : Int} {x5 : Int} {x6 : Int} {x7 : Int} {x8 : Int} {s0 : Int} {s1 : Int} (k : XW kX2_evaluate d (some .int) (wQi Q) 100 [some (.inr (.inr 81)), some (.inr (.inr x1)), some (.inl x2), some (.inl x3), some (.inl x4), some (.inl x5), some (.inl x6), some (.inl x7), some (.inl x8)] [.inl (yand s0 (yxor x8 (-1))), .inl s1, .inr (.inr 82)] M) : XW kX2_evaluate d (some .int) (wQi Q) 83 [some (.inr (.inr 81)), some (.inr (.inr x1)), some (.inl x2), some (.inl x3), some (.inl x4), some (.inl x5), some (.inl x6), some (.inl x7), some (.inl x8)] [.inl s0, .inl s1, .inr (.inr 82)] M := by
  refine x_iload rfl rfl ?_
  refine x_iconst (-1) rfl (by decide) ?_
  refine x_ixor rfl ?_
  refine x_iand rfl ?_
  exact x_goto rfl k
theorem uX2_evaluate_91 {d : Nat} {Q : Int → yM → Prop} {M : yM} {x1 : Nat} {x2 : Int} {x3 : Int} {x4 : Int} {x5 : Int} {x6 : Int} {x7 : Int} {x8 : Int} {s0 : Int} (k : XCi d 70 [.inr (.inr 1), .inl x8] M (fun v M' => XW kX2_evaluate (d + 1) (some .int) (wQi Q) 100 [some (.inr (.inr 81)), some (.inr (.inr x1)), some (.inl x2), some (.inl x3), some (.inl x4), some (.inl x5), some (.inl x6), some (.inl x7), some (.inl x8)] [.inl v, .inl s0, .inr (.inr 82)] M')) : XW kX2_evaluate (d + 1) (some .int) (wQi Q) 91 [some (.inr (.inr 81)), some (.inr (.inr x1)), some (.inl x2), some (.inl x3), some (.inl x4), some (.inl x5), some (.inl x6), some (.inl x7), some (.inl x8)] [.inl s0, .inr (.inr 82)] M := by
  refine x_aload_n rfl rfl ?_
  refine x_getR rfl sh81 rfl ?_
  refine x_iload rfl rfl ?_
  exact x_calli (args := [.inr (.inr 1), .inl x8]) rfl rfl rfl k
theorem uX2_evaluate_100 {d : Nat} {Q : Int → yM → Prop} {M : yM} {x1 : Nat} {x2 : Int} {x3 : Int} {x4 : Int} {x5 : Int} {x6 : Int} {x7 : Int} {x8 : Int} {s0 : Int} {s1 : Int} (h1 : 0 ≤ s1 ∧ s1 < 60) (k : ∀ M', M' = (put M 82 s1 s0) → XW kX2_evaluate d (some .int) (wQi Q) 101 [some (.inr (.inr 81)), some (.inr (.inr x1)), some (.inl x2), some (.inl x3), some (.inl x4), some (.inl x5), some (.inl x6), some (.inl x7), some (.inl x8)] [] M') : XW kX2_evaluate d (some .int) (wQi Q) 100 [some (.inr (.inr 81)), some (.inr (.inr x1)), some (.inl x2), some (.inl x3), some (.inl x4), some (.inl x5), some (.inl x6), some (.inl x7), some (.inl x8)] [.inl s0, .inl s1, .inr (.inr 82)] M := by
  refine x_iastore rfl ⟨sh82, Nat.le_of_ble_eq_true rfl⟩ h1  ?_
  exact k _ rfl
theorem uX2_evaluate_101 {d : Nat} {Q : Int → yM → Prop} {M : yM} {x1 : Nat} {x2 : Int} {x3 : Int} {x4 : Int} {x5 : Int} {x6 : Int} {x7 : Int} {x8 : Int} (k : XW kX2_evaluate d (some .int) (wQi Q) 195 [some (.inr (.inr 81)), some (.inr (.inr x1)), some (.inl x2), some (.inl x3), some (.inl x4), some (.inl x5), some (.inl x6), some (.inl x7), some (.inl x8)] [] M) : XW kX2_evaluate d (some .int) (wQi Q) 101 [some (.inr (.inr 81)), some (.inr (.inr x1)), some (.inl x2), some (.inl x3), some (.inl x4), some (.inl x5), some (.inl x6), some (.inl x7), some (.inl x8)] [] M := by
  exact x_goto rfl k
theorem uX2_evaluate_104 {d : Nat} {Q : Int → yM → Prop} {M : yM} {x1 : Nat} {x2 : Int} {x3 : Int} {x4 : Int} {x5 : Int} {x6 : Int} {x7 : Int} {wx8 : Option yV} (h1 : -2147483648 ≤ x7 ∧ x7 < 2147483648) (kt : x7 = 43 → XW kX2_evaluate d (some .int) (wQi Q) 125 [some (.inr (.inr 81)), some (.inr (.inr x1)), some (.inl x2), some (.inl x3), some (.inl x4), some (.inl x5), some (.inl x6), some (.inl x7), wx8] [] M) (kf : x7 ≠ 43 → XW kX2_evaluate d (some .int) (wQi Q) 111 [some (.inr (.inr 81)), some (.inr (.inr x1)), some (.inl x2), some (.inl x3), some (.inl x4), some (.inl x5), some (.inl x6), some (.inl x7), wx8] [] M) : XW kX2_evaluate d (some .int) (wQi Q) 104 [some (.inr (.inr 81)), some (.inr (.inr x1)), some (.inl x2), some (.inl x3), some (.inl x4), some (.inl x5), some (.inl x6), some (.inl x7), wx8] [] M := by
  refine x_iload rfl rfl ?_
  refine x_bipush 43 rfl (by decide) ?_
  exact x_icmpeq rfl h1 (by decide) kt kf
theorem uX2_evaluate_111 {d : Nat} {Q : Int → yM → Prop} {M : yM} {x1 : Nat} {x2 : Int} {x3 : Int} {x4 : Int} {x5 : Int} {x6 : Int} {x7 : Int} {wx8 : Option yV} (h1 : -2147483648 ≤ x7 ∧ x7 < 2147483648) (kt : x7 = 38 → XW kX2_evaluate d (some .int) (wQi Q) 125 [some (.inr (.inr 81)), some (.inr (.inr x1)), some (.inl x2), some (.inl x3), some (.inl x4), some (.inl x5), some (.inl x6), some (.inl x7), wx8] [] M) (kf : x7 ≠ 38 → XW kX2_evaluate d (some .int) (wQi Q) 118 [some (.inr (.inr 81)), some (.inr (.inr x1)), some (.inl x2), some (.inl x3), some (.inl x4), some (.inl x5), some (.inl x6), some (.inl x7), wx8] [] M) : XW kX2_evaluate d (some .int) (wQi Q) 111 [some (.inr (.inr 81)), some (.inr (.inr x1)), some (.inl x2), some (.inl x3), some (.inl x4), some (.inl x5), some (.inl x6), some (.inl x7), wx8] [] M := by
  refine x_iload rfl rfl ?_
  refine x_bipush 38 rfl (by decide) ?_
  exact x_icmpeq rfl h1 (by decide) kt kf
theorem uX2_evaluate_118 {d : Nat} {Q : Int → yM → Prop} {M : yM} {x1 : Nat} {x2 : Int} {x3 : Int} {x4 : Int} {x5 : Int} {x6 : Int} {x7 : Int} {wx8 : Option yV} (h1 : -2147483648 ≤ x7 ∧ x7 < 2147483648) (kt : x7 ≠ 59 → XW kX2_evaluate d (some .int) (wQi Q) 168 [some (.inr (.inr 81)), some (.inr (.inr x1)), some (.inl x2), some (.inl x3), some (.inl x4), some (.inl x5), some (.inl x6), some (.inl x7), wx8] [] M) (kf : x7 = 59 → XW kX2_evaluate d (some .int) (wQi Q) 125 [some (.inr (.inr 81)), some (.inr (.inr x1)), some (.inl x2), some (.inl x3), some (.inl x4), some (.inl x5), some (.inl x6), some (.inl x7), wx8] [] M) : XW kX2_evaluate d (some .int) (wQi Q) 118 [some (.inr (.inr 81)), some (.inr (.inr x1)), some (.inl x2), some (.inl x3), some (.inl x4), some (.inl x5), some (.inl x6), some (.inl x7), wx8] [] M := by
  refine x_iload rfl rfl ?_
  refine x_bipush 59 rfl (by decide) ?_
  exact x_icmpne rfl h1 (by decide) kt kf
theorem uX2_evaluate_125 {d : Nat} {Q : Int → yM → Prop} {M : yM} {x1 : Nat} {x2 : Int} {x3 : Int} {x4 : Int} {x5 : Int} {x6 : Int} {x7 : Int} {wx8 : Option yV} (h1 : -2147483648 ≤ x5 ∧ x5 < 2147483648) (kt : x5 ≤ 1 → XW kX2_evaluate d (some .int) (wQi Q) 195 [some (.inr (.inr 81)), some (.inr (.inr x1)), some (.inl x2), some (.inl x3), some (.inl x4), some (.inl x5), some (.inl x6), some (.inl x7), wx8] [] M) (kf : x5 > 1 → XW kX2_evaluate d (some .int) (wQi Q) 131 [some (.inr (.inr 81)), some (.inr (.inr x1)), some (.inl x2), some (.inl x3), some (.inl x4), some (.inl x5), some (.inl x6), some (.inl x7), wx8] [] M) : XW kX2_evaluate d (some .int) (wQi Q) 125 [some (.inr (.inr 81)), some (.inr (.inr x1)), some (.inl x2), some (.inl x3), some (.inl x4), some (.inl x5), some (.inl x6), some (.inl x7), wx8] [] M := by
  refine x_iload rfl rfl ?_
  refine x_iconst 1 rfl (by decide) ?_
  exact x_icmple rfl h1 (by decide) kt kf
theorem uX2_evaluate_131 {d : Nat} {Q : Int → yM → Prop} {M : yM} {x1 : Nat} {x2 : Int} {x3 : Int} {x4 : Int} {x5 : Int} {x6 : Int} {x7 : Int} {wx8 : Option yV} (h1 : 0 ≤ ((x5 + (-1)) - 1) ∧ ((x5 + (-1)) - 1) < 60) (h2 : 0 ≤ (x5 + (-1)) ∧ (x5 + (-1)) < 60) (k : XCi d 16 [.inr (.inr 81), .inl x7, .inl (ld M 82 ((x5 + (-1)) - 1)), .inl (ld M 82 (x5 + (-1)))] M (fun v M' => XW kX2_evaluate (d + 1) (some .int) (wQi Q) 164 [some (.inr (.inr 81)), some (.inr (.inr x1)), some (.inl x2), some (.inl x3), some (.inl x4), some (.inl (x5 + (-1))), some (.inl x6), some (.inl x7), wx8] [.inl v, .inl ((x5 + (-1)) - 1), .inr (.inr 82)] M')) : XW kX2_evaluate (d + 1) (some .int) (wQi Q) 131 [some (.inr (.inr 81)), some (.inr (.inr x1)), some (.inl x2), some (.inl x3), some (.inl x4), some (.inl x5), some (.inl x6), some (.inl x7), wx8] [] M := by
  refine x_iinc (-1) rfl (by decide) rfl rfl ?_
  refine x_aload_n rfl rfl ?_
  refine x_getR rfl sh81 rfl ?_
  refine x_iload rfl rfl ?_
  refine x_iconst 1 rfl (by decide) ?_
  refine x_isub rfl ?_
  refine x_aload_n rfl rfl ?_
  refine x_iload rfl rfl ?_
  refine x_aload_n rfl rfl ?_
  refine x_getR rfl sh81 rfl ?_
  refine x_iload rfl rfl ?_
  refine x_iconst 1 rfl (by decide) ?_
  refine x_isub rfl ?_
  refine x_iaload rfl ⟨sh82, Nat.le_of_ble_eq_true rfl⟩ h1 ?_
  refine x_aload_n rfl rfl ?_
  refine x_getR rfl sh81 rfl ?_
  refine x_iload rfl rfl ?_
  refine x_iaload rfl ⟨sh82, Nat.le_of_ble_eq_true rfl⟩ h2 ?_
  exact x_calli (args := [.inr (.inr 81), .inl x7, .inl (ld M 82 ((x5 + (-1)) - 1)), .inl (ld M 82 (x5 + (-1)))]) rfl rfl rfl k
theorem uX2_evaluate_164 {d : Nat} {Q : Int → yM → Prop} {M : yM} {x1 : Nat} {x2 : Int} {x3 : Int} {x4 : Int} {x5 : Int} {x6 : Int} {x7 : Int} {wx8 : Option yV} {s0 : Int} {s1 : Int} (h1 : 0 ≤ s1 ∧ s1 < 60) (k : ∀ M', M' = (put M 82 s1 s0) → XW kX2_evaluate d (some .int) (wQi Q) 165 [some (.inr (.inr 81)), some (.inr (.inr x1)), some (.inl x2), some (.inl x3), some (.inl x4), some (.inl x5), some (.inl x6), some (.inl x7), wx8] [] M') : XW kX2_evaluate d (some .int) (wQi Q) 164 [some (.inr (.inr 81)), some (.inr (.inr x1)), some (.inl x2), some (.inl x3), some (.inl x4), some (.inl x5), some (.inl x6), some (.inl x7), wx8] [.inl s0, .inl s1, .inr (.inr 82)] M := by
  refine x_iastore rfl ⟨sh82, Nat.le_of_ble_eq_true rfl⟩ h1  ?_
  exact k _ rfl
theorem uX2_evaluate_165 {d : Nat} {Q : Int → yM → Prop} {M : yM} {x1 : Nat} {x2 : Int} {x3 : Int} {x4 : Int} {x5 : Int} {x6 : Int} {x7 : Int} {wx8 : Option yV} (k : XW kX2_evaluate d (some .int) (wQi Q) 195 [some (.inr (.inr 81)), some (.inr (.inr x1)), some (.inl x2), some (.inl x3), some (.inl x4), some (.inl x5), some (.inl x6), some (.inl x7), wx8] [] M) : XW kX2_evaluate d (some .int) (wQi Q) 165 [some (.inr (.inr 81)), some (.inr (.inr x1)), some (.inl x2), some (.inl x3), some (.inl x4), some (.inl x5), some (.inl x6), some (.inl x7), wx8] [] M := by
  exact x_goto rfl k
theorem uX2_evaluate_168 {d : Nat} {Q : Int → yM → Prop} {M : yM} {x1 : Nat} {x2 : Int} {x3 : Int} {x4 : Int} {x5 : Int} {x6 : Int} {x7 : Int} {wx8 : Option yV} (h1 : -2147483648 ≤ x5 ∧ x5 < 2147483648) (kt : x5 ≥ 60 → XW kX2_evaluate d (some .int) (wQi Q) 195 [some (.inr (.inr 81)), some (.inr (.inr x1)), some (.inl x2), some (.inl x3), some (.inl x4), some (.inl x5), some (.inl x6), some (.inl x7), wx8] [] M) (kf : x5 < 60 → XW kX2_evaluate d (some .int) (wQi Q) 175 [some (.inr (.inr 81)), some (.inr (.inr x1)), some (.inl x2), some (.inl x3), some (.inl x4), some (.inl x5), some (.inl x6), some (.inl x7), wx8] [] M) : XW kX2_evaluate d (some .int) (wQi Q) 168 [some (.inr (.inr 81)), some (.inr (.inr x1)), some (.inl x2), some (.inl x3), some (.inl x4), some (.inl x5), some (.inl x6), some (.inl x7), wx8] [] M := by
  refine x_iload rfl rfl ?_
  refine x_bipush 60 rfl (by decide) ?_
  exact x_icmpge rfl h1 (by decide) kt kf
theorem uX2_evaluate_175 {d : Nat} {Q : Int → yM → Prop} {M : yM} {x1 : Nat} {x2 : Int} {x3 : Int} {x4 : Int} {x5 : Int} {x6 : Int} {x7 : Int} {wx8 : Option yV} (k : XCi d 17 [.inr (.inr 81), .inl x7, .inl x2, .inl x3, .inl x4] M (fun v M' => XW kX2_evaluate (d + 1) (some .int) (wQi Q) 191 [some (.inr (.inr 81)), some (.inr (.inr x1)), some (.inl x2), some (.inl x3), some (.inl x4), some (.inl x5), some (.inl x6), some (.inl x7), wx8] [.inl v, .inl x5, .inr (.inr 82)] M')) : XW kX2_evaluate (d + 1) (some .int) (wQi Q) 175 [some (.inr (.inr 81)), some (.inr (.inr x1)), some (.inl x2), some (.inl x3), some (.inl x4), some (.inl x5), some (.inl x6), some (.inl x7), wx8] [] M := by
  refine x_aload_n rfl rfl ?_
  refine x_getR rfl sh81 rfl ?_
  refine x_iload rfl rfl ?_
  refine x_aload_n rfl rfl ?_
  refine x_iload rfl rfl ?_
  refine x_iload_n rfl rfl ?_
  refine x_iload_n rfl rfl ?_
  refine x_iload rfl rfl ?_
  exact x_calli (args := [.inr (.inr 81), .inl x7, .inl x2, .inl x3, .inl x4]) rfl rfl rfl k
theorem uX2_evaluate_191 {d : Nat} {Q : Int → yM → Prop} {M : yM} {x1 : Nat} {x2 : Int} {x3 : Int} {x4 : Int} {x5 : Int} {x6 : Int} {x7 : Int} {wx8 : Option yV} {s0 : Int} {s1 : Int} (h1 : 0 ≤ s1 ∧ s1 < 60) (k : ∀ M', M' = (put M 82 s1 s0) → XW kX2_evaluate d (some .int) (wQi Q) 192 [some (.inr (.inr 81)), some (.inr (.inr x1)), some (.inl x2), some (.inl x3), some (.inl x4), some (.inl x5), some (.inl x6), some (.inl x7), wx8] [] M') : XW kX2_evaluate d (some .int) (wQi Q) 191 [some (.inr (.inr 81)), some (.inr (.inr x1)), some (.inl x2), some (.inl x3), some (.inl x4), some (.inl x5), some (.inl x6), some (.inl x7), wx8] [.inl s0, .inl s1, .inr (.inr 82)] M := by
  refine x_iastore rfl ⟨sh82, Nat.le_of_ble_eq_true rfl⟩ h1  ?_
  exact k _ rfl
theorem uX2_evaluate_192 {d : Nat} {Q : Int → yM → Prop} {M : yM} {x1 : Nat} {x2 : Int} {x3 : Int} {x4 : Int} {x5 : Int} {x6 : Int} {x7 : Int} {wx8 : Option yV} (k : XW kX2_evaluate d (some .int) (wQi Q) 195 [some (.inr (.inr 81)), some (.inr (.inr x1)), some (.inl x2), some (.inl x3), some (.inl x4), some (.inl (x5 + 1)), some (.inl x6), some (.inl x7), wx8] [] M) : XW kX2_evaluate d (some .int) (wQi Q) 192 [some (.inr (.inr 81)), some (.inr (.inr x1)), some (.inl x2), some (.inl x3), some (.inl x4), some (.inl x5), some (.inl x6), some (.inl x7), wx8] [] M := by
  refine x_iinc 1 rfl (by decide) rfl rfl ?_
  exact k
theorem uX2_evaluate_195 {d : Nat} {Q : Int → yM → Prop} {M : yM} {x1 : Nat} {x2 : Int} {x3 : Int} {x4 : Int} {x5 : Int} {x6 : Int} {x7 : Int} {wx8 : Option yV} (k : XW kX2_evaluate d (some .int) (wQi Q) 6 [some (.inr (.inr 81)), some (.inr (.inr x1)), some (.inl x2), some (.inl x3), some (.inl x4), some (.inl x5), some (.inl (x6 + 1)), some (.inl x7), wx8] [] M) : XW kX2_evaluate d (some .int) (wQi Q) 195 [some (.inr (.inr 81)), some (.inr (.inr x1)), some (.inl x2), some (.inl x3), some (.inl x4), some (.inl x5), some (.inl x6), some (.inl x7), wx8] [] M := by
  refine x_iinc 1 rfl (by decide) rfl rfl ?_
  exact x_goto rfl k
theorem uX2_evaluate_201 {d : Nat} {Q : Int → yM → Prop} {M : yM} {x1 : Nat} {x2 : Int} {x3 : Int} {x4 : Int} {x5 : Int} {x6 : Int} {wx7 : Option yV} {wx8 : Option yV} (h1 : -2147483648 ≤ x5 ∧ x5 < 2147483648) (kt : x5 ≤ 0 → XW kX2_evaluate d (some .int) (wQi Q) 215 [some (.inr (.inr 81)), some (.inr (.inr x1)), some (.inl x2), some (.inl x3), some (.inl x4), some (.inl x5), some (.inl x6), wx7, wx8] [] M) (kf : x5 > 0 → XW kX2_evaluate d (some .int) (wQi Q) 206 [some (.inr (.inr 81)), some (.inr (.inr x1)), some (.inl x2), some (.inl x3), some (.inl x4), some (.inl x5), some (.inl x6), wx7, wx8] [] M) : XW kX2_evaluate d (some .int) (wQi Q) 201 [some (.inr (.inr 81)), some (.inr (.inr x1)), some (.inl x2), some (.inl x3), some (.inl x4), some (.inl x5), some (.inl x6), wx7, wx8] [] M := by
  refine x_iload rfl rfl ?_
  exact x_ifle rfl h1 kt kf
theorem uX2_evaluate_206 {d : Nat} {Q : Int → yM → Prop} {M : yM} {x1 : Nat} {x2 : Int} {x3 : Int} {x4 : Int} {x5 : Int} {x6 : Int} {wx7 : Option yV} {wx8 : Option yV} (k : XW kX2_evaluate d (some .int) (wQi Q) 216 [some (.inr (.inr 81)), some (.inr (.inr x1)), some (.inl x2), some (.inl x3), some (.inl x4), some (.inl x5), some (.inl x6), wx7, wx8] [.inl (ld M 82 0)] M) : XW kX2_evaluate d (some .int) (wQi Q) 206 [some (.inr (.inr 81)), some (.inr (.inr x1)), some (.inl x2), some (.inl x3), some (.inl x4), some (.inl x5), some (.inl x6), wx7, wx8] [] M := by
  refine x_aload_n rfl rfl ?_
  refine x_getR rfl sh81 rfl ?_
  refine x_iconst 0 rfl (by decide) ?_
  refine x_iaload rfl ⟨sh82, Nat.le_of_ble_eq_true rfl⟩ (by decide) ?_
  exact x_goto rfl k
theorem uX2_evaluate_215 {d : Nat} {Q : Int → yM → Prop} {M : yM} {x1 : Nat} {x2 : Int} {x3 : Int} {x4 : Int} {x5 : Int} {x6 : Int} {wx7 : Option yV} {wx8 : Option yV} (k : XW kX2_evaluate d (some .int) (wQi Q) 216 [some (.inr (.inr 81)), some (.inr (.inr x1)), some (.inl x2), some (.inl x3), some (.inl x4), some (.inl x5), some (.inl x6), wx7, wx8] [.inl 0] M) : XW kX2_evaluate d (some .int) (wQi Q) 215 [some (.inr (.inr 81)), some (.inr (.inr x1)), some (.inl x2), some (.inl x3), some (.inl x4), some (.inl x5), some (.inl x6), wx7, wx8] [] M := by
  refine x_iconst 0 rfl (by decide) ?_
  exact k
theorem uX2_evaluate_216 {d : Nat} {Q : Int → yM → Prop} {M : yM} {x1 : Nat} {x2 : Int} {x3 : Int} {x4 : Int} {x5 : Int} {x6 : Int} {wx7 : Option yV} {wx8 : Option yV} {s0 : Int} (k : Q s0 M) : XW kX2_evaluate d (some .int) (wQi Q) 216 [some (.inr (.inr 81)), some (.inr (.inr x1)), some (.inl x2), some (.inl x3), some (.inl x4), some (.inl x5), some (.inl x6), wx7, wx8] [.inl s0] M := by
  exact x_ireturn rfl k
theorem eX2_combined {d : Nat} {Q : Int → yM → Prop} {M : yM} {x1 : Int} {x2 : Int} {x3 : Int}  (h : XW kX2_combined d (some .int) (wQi Q) 0 [some (.inr (.inr 81)), some (.inl x1), some (.inl x2), some (.inl x3)] [] M) : XCi d 16 [.inr (.inr 81), .inl x1, .inl x2, .inl x3] M Q :=
  XC.ofW (Mm := (yX2_combined, cX2_combined, 4, (some .int), 3, kX2_combined)) rfl (rcv_ok sh81) rfl rfl h
theorem uX2_combined_0 {d : Nat} {Q : Int → yM → Prop} {M : yM} {x1 : Int} {x2 : Int} {x3 : Int} (h1 : -2147483648 ≤ x1 ∧ x1 < 2147483648) (kt : x1 ≠ 59 → XW kX2_combined d (some .int) (wQi Q) 16 [some (.inr (.inr 81)), some (.inl x1), some (.inl x2), some (.inl x3)] [] M) (kf : x1 = 59 → XW kX2_combined d (some .int) (wQi Q) 6 [some (.inr (.inr 81)), some (.inl x1), some (.inl x2), some (.inl x3)] [] M) : XW kX2_combined d (some .int) (wQi Q) 0 [some (.inr (.inr 81)), some (.inl x1), some (.inl x2), some (.inl x3)] [] M := by
  refine x_iload_n rfl rfl ?_
  refine x_bipush 59 rfl (by decide) ?_
  exact x_icmpne rfl h1 (by decide) kt kf
theorem uX2_combined_6 {d : Nat} {Q : Int → yM → Prop} {M : yM} {x1 : Int} {x2 : Int} {x3 : Int} (k : XCi d 71 [.inr (.inr 1), .inl x2, .inl x3] M (fun v M' => XW kX2_combined (d + 1) (some .int) (wQi Q) 15 [some (.inr (.inr 81)), some (.inl x1), some (.inl x2), some (.inl x3)] [.inl v] M')) : XW kX2_combined (d + 1) (some .int) (wQi Q) 6 [some (.inr (.inr 81)), some (.inl x1), some (.inl x2), some (.inl x3)] [] M := by
  refine x_aload_n rfl rfl ?_
  refine x_getR rfl sh81 rfl ?_
  refine x_iload_n rfl rfl ?_
  refine x_iload_n rfl rfl ?_
  exact x_calli (args := [.inr (.inr 1), .inl x2, .inl x3]) rfl rfl rfl k
theorem uX2_combined_15 {d : Nat} {Q : Int → yM → Prop} {M : yM} {x1 : Int} {x2 : Int} {x3 : Int} {s0 : Int} (k : Q s0 M) : XW kX2_combined d (some .int) (wQi Q) 15 [some (.inr (.inr 81)), some (.inl x1), some (.inl x2), some (.inl x3)] [.inl s0] M := by
  exact x_ireturn rfl k
theorem uX2_combined_16 {d : Nat} {Q : Int → yM → Prop} {M : yM} {x1 : Int} {x2 : Int} {x3 : Int} (h1 : -2147483648 ≤ x1 ∧ x1 < 2147483648) (kt : x1 ≠ 43 → XW kX2_combined d (some .int) (wQi Q) 28 [some (.inr (.inr 81)), some (.inl x1), some (.inl x2), some (.inl x3)] [] M) (kf : x1 = 43 → XW kX2_combined d (some .int) (wQi Q) 22 [some (.inr (.inr 81)), some (.inl x1), some (.inl x2), some (.inl x3)] [] M) : XW kX2_combined d (some .int) (wQi Q) 16 [some (.inr (.inr 81)), some (.inl x1), some (.inl x2), some (.inl x3)] [] M := by
  refine x_iload_n rfl rfl ?_
  refine x_bipush 43 rfl (by decide) ?_
  exact x_icmpne rfl h1 (by decide) kt kf
theorem uX2_combined_22 {d : Nat} {Q : Int → yM → Prop} {M : yM} {x1 : Int} {x2 : Int} {x3 : Int} (k : XW kX2_combined d (some .int) (wQi Q) 31 [some (.inr (.inr 81)), some (.inl x1), some (.inl x2), some (.inl x3)] [.inl (yor x2 x3)] M) : XW kX2_combined d (some .int) (wQi Q) 22 [some (.inr (.inr 81)), some (.inl x1), some (.inl x2), some (.inl x3)] [] M := by
  refine x_iload_n rfl rfl ?_
  refine x_iload_n rfl rfl ?_
  refine x_ior rfl ?_
  exact x_goto rfl k
theorem uX2_combined_28 {d : Nat} {Q : Int → yM → Prop} {M : yM} {x1 : Int} {x2 : Int} {x3 : Int} (k : XW kX2_combined d (some .int) (wQi Q) 31 [some (.inr (.inr 81)), some (.inl x1), some (.inl x2), some (.inl x3)] [.inl (yand x2 x3)] M) : XW kX2_combined d (some .int) (wQi Q) 28 [some (.inr (.inr 81)), some (.inl x1), some (.inl x2), some (.inl x3)] [] M := by
  refine x_iload_n rfl rfl ?_
  refine x_iload_n rfl rfl ?_
  refine x_iand rfl ?_
  exact k
theorem uX2_combined_31 {d : Nat} {Q : Int → yM → Prop} {M : yM} {x1 : Int} {x2 : Int} {x3 : Int} {s0 : Int} (k : Q s0 M) : XW kX2_combined d (some .int) (wQi Q) 31 [some (.inr (.inr 81)), some (.inl x1), some (.inl x2), some (.inl x3)] [.inl s0] M := by
  exact x_ireturn rfl k
theorem eX2_leaf {d : Nat} {Q : Int → yM → Prop} {M : yM} {x1 : Int} {x2 : Int} {x3 : Int} {x4 : Int}  (h : XW kX2_leaf d (some .int) (wQi Q) 0 [some (.inr (.inr 81)), some (.inl x1), some (.inl x2), some (.inl x3), some (.inl x4)] [] M) : XCi d 17 [.inr (.inr 81), .inl x1, .inl x2, .inl x3, .inl x4] M Q :=
  XC.ofW (Mm := (yX2_leaf, cX2_leaf, 5, (some .int), 3, kX2_leaf)) rfl (rcv_ok sh81) rfl rfl h
theorem uX2_leaf_0 {d : Nat} {Q : Int → yM → Prop} {M : yM} {x1 : Int} {x2 : Int} {x3 : Int} {x4 : Int} (h1 : -2147483648 ≤ x1 ∧ x1 < 2147483648) (c0 : x1 = 48 → XW kX2_leaf d (some .int) (wQi Q) 52 [some (.inr (.inr 81)), some (.inl x1), some (.inl x2), some (.inl x3), some (.inl x4)] [] M) (c1 : x1 = 49 → XW kX2_leaf d (some .int) (wQi Q) 54 [some (.inr (.inr 81)), some (.inl x1), some (.inl x2), some (.inl x3), some (.inl x4)] [] M) (c2 : x1 = 120 → XW kX2_leaf d (some .int) (wQi Q) 62 [some (.inr (.inr 81)), some (.inl x1), some (.inl x2), some (.inl x3), some (.inl x4)] [] M) (c3 : x1 = 121 → XW kX2_leaf d (some .int) (wQi Q) 64 [some (.inr (.inr 81)), some (.inl x1), some (.inl x2), some (.inl x3), some (.inl x4)] [] M) (c4 : x1 = 122 → XW kX2_leaf d (some .int) (wQi Q) 66 [some (.inr (.inr 81)), some (.inl x1), some (.inl x2), some (.inl x3), some (.inl x4)] [] M) (df : x1 ≠ 48 → x1 ≠ 49 → x1 ≠ 120 → x1 ≠ 121 → x1 ≠ 122 → XW kX2_leaf d (some .int) (wQi Q) 69 [some (.inr (.inr 81)), some (.inl x1), some (.inl x2), some (.inl x3), some (.inl x4)] [] M) : XW kX2_leaf d (some .int) (wQi Q) 0 [some (.inr (.inr 81)), some (.inl x1), some (.inl x2), some (.inl x3), some (.inl x4)] [] M := by
  refine x_iload_n rfl rfl ?_
  by_cases q0 : x1 = 48
  · exact x_lsw rfl (by rw [q0]; rfl) (c0 q0)
  by_cases q1 : x1 = 49
  · exact x_lsw rfl (by rw [q1]; rfl) (c1 q1)
  by_cases q2 : x1 = 120
  · exact x_lsw rfl (by rw [q2]; rfl) (c2 q2)
  by_cases q3 : x1 = 121
  · exact x_lsw rfl (by rw [q3]; rfl) (c3 q3)
  by_cases q4 : x1 = 122
  · exact x_lsw rfl (by rw [q4]; rfl) (c4 q4)
  exact x_lsw rfl (by rw [Int32.toInt_ofInt_of_le h1.1 h1.2]; simp [Jvm.Op.lookupswitch.offset, Ne.symm q0, Ne.symm q1, Ne.symm q2, Ne.symm q3, Ne.symm q4]) (df q0 q1 q2 q3 q4)
theorem uX2_leaf_52 {d : Nat} {Q : Int → yM → Prop} {M : yM} {x1 : Int} {x2 : Int} {x3 : Int} {x4 : Int} (k : Q 0 M) : XW kX2_leaf d (some .int) (wQi Q) 52 [some (.inr (.inr 81)), some (.inl x1), some (.inl x2), some (.inl x3), some (.inl x4)] [] M := by
  refine x_iconst 0 rfl (by decide) ?_
  exact x_ireturn rfl k
theorem uX2_leaf_54 {d : Nat} {Q : Int → yM → Prop} {M : yM} {x1 : Int} {x2 : Int} {x3 : Int} {x4 : Int} (k : XCi d 60 [.inr (.inr 1)] M (fun v M' => XW kX2_leaf (d + 1) (some .int) (wQi Q) 61 [some (.inr (.inr 81)), some (.inl x1), some (.inl x2), some (.inl x3), some (.inl x4)] [.inl v] M')) : XW kX2_leaf (d + 1) (some .int) (wQi Q) 54 [some (.inr (.inr 81)), some (.inl x1), some (.inl x2), some (.inl x3), some (.inl x4)] [] M := by
  refine x_aload_n rfl rfl ?_
  refine x_getR rfl sh81 rfl ?_
  exact x_calli (args := [.inr (.inr 1)]) rfl rfl rfl k
theorem uX2_leaf_61 {d : Nat} {Q : Int → yM → Prop} {M : yM} {x1 : Int} {x2 : Int} {x3 : Int} {x4 : Int} {s0 : Int} (k : Q s0 M) : XW kX2_leaf d (some .int) (wQi Q) 61 [some (.inr (.inr 81)), some (.inl x1), some (.inl x2), some (.inl x3), some (.inl x4)] [.inl s0] M := by
  exact x_ireturn rfl k
theorem uX2_leaf_62 {d : Nat} {Q : Int → yM → Prop} {M : yM} {x1 : Int} {x2 : Int} {x3 : Int} {x4 : Int} (k : Q x2 M) : XW kX2_leaf d (some .int) (wQi Q) 62 [some (.inr (.inr 81)), some (.inl x1), some (.inl x2), some (.inl x3), some (.inl x4)] [] M := by
  refine x_iload_n rfl rfl ?_
  exact x_ireturn rfl k
theorem uX2_leaf_64 {d : Nat} {Q : Int → yM → Prop} {M : yM} {x1 : Int} {x2 : Int} {x3 : Int} {x4 : Int} (k : Q x3 M) : XW kX2_leaf d (some .int) (wQi Q) 64 [some (.inr (.inr 81)), some (.inl x1), some (.inl x2), some (.inl x3), some (.inl x4)] [] M := by
  refine x_iload_n rfl rfl ?_
  exact x_ireturn rfl k
theorem uX2_leaf_66 {d : Nat} {Q : Int → yM → Prop} {M : yM} {x1 : Int} {x2 : Int} {x3 : Int} {x4 : Int} (k : Q x4 M) : XW kX2_leaf d (some .int) (wQi Q) 66 [some (.inr (.inr 81)), some (.inl x1), some (.inl x2), some (.inl x3), some (.inl x4)] [] M := by
  refine x_iload rfl rfl ?_
  exact x_ireturn rfl k
theorem uX2_leaf_69 {d : Nat} {Q : Int → yM → Prop} {M : yM} {x1 : Int} {x2 : Int} {x3 : Int} {x4 : Int} (k : Q (yshl 1 (yand (x1 - 97) 7)) M) : XW kX2_leaf d (some .int) (wQi Q) 69 [some (.inr (.inr 81)), some (.inl x1), some (.inl x2), some (.inl x3), some (.inl x4)] [] M := by
  refine x_iconst 1 rfl (by decide) ?_
  refine x_iload_n rfl rfl ?_
  refine x_bipush 97 rfl (by decide) ?_
  refine x_isub rfl ?_
  refine x_bipush 7 rfl (by decide) ?_
  refine x_iand rfl ?_
  refine x_ishl rfl ?_
  exact x_ireturn rfl k
theorem eX2_leastDifference {d : Nat} {Q : Int → yM → Prop} {M : yM} {x1 : Nat} {x2 : Nat}  (h : XW kX2_leastDifference d (some .int) (wQi Q) 0 [some (.inr (.inr 81)), some (.inr (.inr x1)), some (.inr (.inr x2)), none, none, none, none, none, none, none, none] [] M) : XCi d 18 [.inr (.inr 81), .inr (.inr x1), .inr (.inr x2)] M Q :=
  XC.ofW (Mm := (yX2_leastDifference, cX2_leastDifference, 11, (some .int), 3, kX2_leastDifference)) rfl (rcv_ok sh81) rfl rfl h
theorem uX2_leastDifference_0 {d : Nat} {Q : Int → yM → Prop} {M : yM} {x1 : Nat} {x2 : Nat} (h1 : termSh x1) (h2 : termSh x2) (k : XCi d 60 [.inr (.inr 1)] M (fun v M' => XW kX2_leastDifference (d + 1) (some .int) (wQi Q) 17 [some (.inr (.inr 81)), some (.inr (.inr x1)), some (.inr (.inr x2)), some (.inl (yor (ld M x1 2) (ld M x2 2))), none, none, none, none, none, none, none] [.inl v] M')) : XW kX2_leastDifference (d + 1) (some .int) (wQi Q) 0 [some (.inr (.inr 81)), some (.inr (.inr x1)), some (.inr (.inr x2)), none, none, none, none, none, none, none, none] [] M := by
  refine x_aload_n rfl rfl ?_
  refine x_getI rfl h1.1 rfl ?_
  refine x_aload_n rfl rfl ?_
  refine x_getI rfl h2.1 rfl ?_
  refine x_ior rfl ?_
  refine x_istore_n rfl (Nat.le_of_ble_eq_true rfl) rfl ?_
  refine x_aload_n rfl rfl ?_
  refine x_getR rfl sh81 rfl ?_
  exact x_calli (args := [.inr (.inr 1)]) rfl rfl rfl k
theorem uX2_leastDifference_17 {d : Nat} {Q : Int → yM → Prop} {M : yM} {x1 : Nat} {x2 : Nat} {x3 : Int} {s0 : Int} (kt : (yand x3 1) = 0 → XW kX2_leastDifference d (some .int) (wQi Q) 30 [some (.inr (.inr 81)), some (.inr (.inr x1)), some (.inr (.inr x2)), some (.inl x3), some (.inl s0), none, none, none, none, none, none] [] M) (kf : (yand x3 1) ≠ 0 → XW kX2_leastDifference d (some .int) (wQi Q) 25 [some (.inr (.inr 81)), some (.inr (.inr x1)), some (.inr (.inr x2)), some (.inl x3), some (.inl s0), none, none, none, none, none, none] [] M) : XW kX2_leastDifference d (some .int) (wQi Q) 17 [some (.inr (.inr 81)), some (.inr (.inr x1)), some (.inr (.inr x2)), some (.inl x3), none, none, none, none, none, none, none] [.inl s0] M := by
  refine x_istore rfl (Nat.le_of_ble_eq_true rfl) rfl ?_
  refine x_iload_n rfl rfl ?_
  refine x_iconst 1 rfl (by decide) ?_
  refine x_iand rfl ?_
  exact x_ifeq rfl (rng_yand _ _) kt kf
theorem uX2_leastDifference_25 {d : Nat} {Q : Int → yM → Prop} {M : yM} {x1 : Nat} {x2 : Nat} {x3 : Int} {x4 : Int} (k : XW kX2_leastDifference d (some .int) (wQi Q) 31 [some (.inr (.inr 81)), some (.inr (.inr x1)), some (.inr (.inr x2)), some (.inl x3), some (.inl x4), none, none, none, none, none, none] [.inl x4] M) : XW kX2_leastDifference d (some .int) (wQi Q) 25 [some (.inr (.inr 81)), some (.inr (.inr x1)), some (.inr (.inr x2)), some (.inl x3), some (.inl x4), none, none, none, none, none, none] [] M := by
  refine x_iload rfl rfl ?_
  exact x_goto rfl k
theorem uX2_leastDifference_30 {d : Nat} {Q : Int → yM → Prop} {M : yM} {x1 : Nat} {x2 : Nat} {x3 : Int} {x4 : Int} (k : XW kX2_leastDifference d (some .int) (wQi Q) 31 [some (.inr (.inr 81)), some (.inr (.inr x1)), some (.inr (.inr x2)), some (.inl x3), some (.inl x4), none, none, none, none, none, none] [.inl 0] M) : XW kX2_leastDifference d (some .int) (wQi Q) 30 [some (.inr (.inr 81)), some (.inr (.inr x1)), some (.inr (.inr x2)), some (.inl x3), some (.inl x4), none, none, none, none, none, none] [] M := by
  refine x_iconst 0 rfl (by decide) ?_
  exact k
theorem uX2_leastDifference_31 {d : Nat} {Q : Int → yM → Prop} {M : yM} {x1 : Nat} {x2 : Nat} {x3 : Int} {x4 : Int} {s0 : Int} (kt : (yand x3 2) = 0 → XW kX2_leastDifference d (some .int) (wQi Q) 44 [some (.inr (.inr 81)), some (.inr (.inr x1)), some (.inr (.inr x2)), some (.inl x3), some (.inl x4), some (.inl s0), none, none, none, none, none] [] M) (kf : (yand x3 2) ≠ 0 → XW kX2_leastDifference d (some .int) (wQi Q) 39 [some (.inr (.inr 81)), some (.inr (.inr x1)), some (.inr (.inr x2)), some (.inl x3), some (.inl x4), some (.inl s0), none, none, none, none, none] [] M) : XW kX2_leastDifference d (some .int) (wQi Q) 31 [some (.inr (.inr 81)), some (.inr (.inr x1)), some (.inr (.inr x2)), some (.inl x3), some (.inl x4), none, none, none, none, none, none] [.inl s0] M := by
  refine x_istore rfl (Nat.le_of_ble_eq_true rfl) rfl ?_
  refine x_iload_n rfl rfl ?_
  refine x_iconst 2 rfl (by decide) ?_
  refine x_iand rfl ?_
  exact x_ifeq rfl (rng_yand _ _) kt kf
theorem uX2_leastDifference_39 {d : Nat} {Q : Int → yM → Prop} {M : yM} {x1 : Nat} {x2 : Nat} {x3 : Int} {x4 : Int} {x5 : Int} (k : XW kX2_leastDifference d (some .int) (wQi Q) 45 [some (.inr (.inr 81)), some (.inr (.inr x1)), some (.inr (.inr x2)), some (.inl x3), some (.inl x4), some (.inl x5), none, none, none, none, none] [.inl x4] M) : XW kX2_leastDifference d (some .int) (wQi Q) 39 [some (.inr (.inr 81)), some (.inr (.inr x1)), some (.inr (.inr x2)), some (.inl x3), some (.inl x4), some (.inl x5), none, none, none, none, none] [] M := by
  refine x_iload rfl rfl ?_
  exact x_goto rfl k
theorem uX2_leastDifference_44 {d : Nat} {Q : Int → yM → Prop} {M : yM} {x1 : Nat} {x2 : Nat} {x3 : Int} {x4 : Int} {x5 : Int} (k : XW kX2_leastDifference d (some .int) (wQi Q) 45 [some (.inr (.inr 81)), some (.inr (.inr x1)), some (.inr (.inr x2)), some (.inl x3), some (.inl x4), some (.inl x5), none, none, none, none, none] [.inl 0] M) : XW kX2_leastDifference d (some .int) (wQi Q) 44 [some (.inr (.inr 81)), some (.inr (.inr x1)), some (.inr (.inr x2)), some (.inl x3), some (.inl x4), some (.inl x5), none, none, none, none, none] [] M := by
  refine x_iconst 0 rfl (by decide) ?_
  exact k
theorem uX2_leastDifference_45 {d : Nat} {Q : Int → yM → Prop} {M : yM} {x1 : Nat} {x2 : Nat} {x3 : Int} {x4 : Int} {x5 : Int} {s0 : Int} (kt : (yand x3 4) = 0 → XW kX2_leastDifference d (some .int) (wQi Q) 58 [some (.inr (.inr 81)), some (.inr (.inr x1)), some (.inr (.inr x2)), some (.inl x3), some (.inl x4), some (.inl x5), some (.inl s0), none, none, none, none] [] M) (kf : (yand x3 4) ≠ 0 → XW kX2_leastDifference d (some .int) (wQi Q) 53 [some (.inr (.inr 81)), some (.inr (.inr x1)), some (.inr (.inr x2)), some (.inl x3), some (.inl x4), some (.inl x5), some (.inl s0), none, none, none, none] [] M) : XW kX2_leastDifference d (some .int) (wQi Q) 45 [some (.inr (.inr 81)), some (.inr (.inr x1)), some (.inr (.inr x2)), some (.inl x3), some (.inl x4), some (.inl x5), none, none, none, none, none] [.inl s0] M := by
  refine x_istore rfl (Nat.le_of_ble_eq_true rfl) rfl ?_
  refine x_iload_n rfl rfl ?_
  refine x_iconst 4 rfl (by decide) ?_
  refine x_iand rfl ?_
  exact x_ifeq rfl (rng_yand _ _) kt kf
theorem uX2_leastDifference_53 {d : Nat} {Q : Int → yM → Prop} {M : yM} {x1 : Nat} {x2 : Nat} {x3 : Int} {x4 : Int} {x5 : Int} {x6 : Int} (k : XW kX2_leastDifference d (some .int) (wQi Q) 59 [some (.inr (.inr 81)), some (.inr (.inr x1)), some (.inr (.inr x2)), some (.inl x3), some (.inl x4), some (.inl x5), some (.inl x6), none, none, none, none] [.inl x4] M) : XW kX2_leastDifference d (some .int) (wQi Q) 53 [some (.inr (.inr 81)), some (.inr (.inr x1)), some (.inr (.inr x2)), some (.inl x3), some (.inl x4), some (.inl x5), some (.inl x6), none, none, none, none] [] M := by
  refine x_iload rfl rfl ?_
  exact x_goto rfl k
theorem uX2_leastDifference_58 {d : Nat} {Q : Int → yM → Prop} {M : yM} {x1 : Nat} {x2 : Nat} {x3 : Int} {x4 : Int} {x5 : Int} {x6 : Int} (k : XW kX2_leastDifference d (some .int) (wQi Q) 59 [some (.inr (.inr 81)), some (.inr (.inr x1)), some (.inr (.inr x2)), some (.inl x3), some (.inl x4), some (.inl x5), some (.inl x6), none, none, none, none] [.inl 0] M) : XW kX2_leastDifference d (some .int) (wQi Q) 58 [some (.inr (.inr 81)), some (.inr (.inr x1)), some (.inr (.inr x2)), some (.inl x3), some (.inl x4), some (.inl x5), some (.inl x6), none, none, none, none] [] M := by
  refine x_iconst 0 rfl (by decide) ?_
  exact k
theorem uX2_leastDifference_59 {d : Nat} {Q : Int → yM → Prop} {M : yM} {x1 : Nat} {x2 : Nat} {x3 : Int} {x4 : Int} {x5 : Int} {x6 : Int} {s0 : Int} (k : XW kX2_leastDifference d (some .int) (wQi Q) 64 [some (.inr (.inr 81)), some (.inr (.inr x1)), some (.inr (.inr x2)), some (.inl x3), some (.inl x4), some (.inl x5), some (.inl x6), some (.inl s0), some (.inl 0), none, none] [] M) : XW kX2_leastDifference d (some .int) (wQi Q) 59 [some (.inr (.inr 81)), some (.inr (.inr x1)), some (.inr (.inr x2)), some (.inl x3), some (.inl x4), some (.inl x5), some (.inl x6), none, none, none, none] [.inl s0] M := by
  refine x_istore rfl (Nat.le_of_ble_eq_true rfl) rfl ?_
  refine x_iconst 0 rfl (by decide) ?_
  refine x_istore rfl (Nat.le_of_ble_eq_true rfl) rfl ?_
  exact k
theorem uX2_leastDifference_64 {d : Nat} {Q : Int → yM → Prop} {M : yM} {x1 : Nat} {x2 : Nat} {x3 : Int} {x4 : Int} {x5 : Int} {x6 : Int} {x7 : Int} {x8 : Int} {wx9 : Option yV} {wx10 : Option yV} (h1 : -2147483648 ≤ x8 ∧ x8 < 2147483648) (h2 : -2147483648 ≤ x7 ∧ x7 < 2147483648) (kt : x8 > x7 → XW kX2_leastDifference d (some .int) (wQi Q) 161 [some (.inr (.inr 81)), some (.inr (.inr x1)), some (.inr (.inr x2)), some (.inl x3), some (.inl x4), some (.inl x5), some (.inl x6), some (.inl x7), some (.inl x8), wx9, wx10] [] M) (kf : x8 ≤ x7 → XW kX2_leastDifference d (some .int) (wQi Q) 71 [some (.inr (.inr 81)), some (.inr (.inr x1)), some (.inr (.inr x2)), some (.inl x3), some (.inl x4), some (.inl x5), some (.inl x6), some (.inl x7), some (.inl x8), wx9, wx10] [] M) : XW kX2_leastDifference d (some .int) (wQi Q) 64 [some (.inr (.inr 81)), some (.inr (.inr x1)), some (.inr (.inr x2)), some (.inl x3), some (.inl x4), some (.inl x5), some (.inl x6), some (.inl x7), some (.inl x8), wx9, wx10] [] M := by
  refine x_iload rfl rfl ?_
  refine x_iload rfl rfl ?_
  exact x_icmpgt rfl h1 h2 kt kf
theorem uX2_leastDifference_71 {d : Nat} {Q : Int → yM → Prop} {M : yM} {x1 : Nat} {x2 : Nat} {x3 : Int} {x4 : Int} {x5 : Int} {x6 : Int} {x7 : Int} {x8 : Int} {wx9 : Option yV} {wx10 : Option yV} (k : XW kX2_leastDifference d (some .int) (wQi Q) 74 [some (.inr (.inr 81)), some (.inr (.inr x1)), some (.inr (.inr x2)), some (.inl x3), some (.inl x4), some (.inl x5), some (.inl x6), some (.inl x7), some (.inl x8), some (.inl 0), wx10] [] M) : XW kX2_leastDifference d (some .int) (wQi Q) 71 [some (.inr (.inr 81)), some (.inr (.inr x1)), some (.inr (.inr x2)), some (.inl x3), some (.inl x4), some (.inl x5), some (.inl x6), some (.inl x7), some (.inl x8), wx9, wx10] [] M := by
  refine x_iconst 0 rfl (by decide) ?_
  refine x_istore rfl (Nat.le_of_ble_eq_true rfl) rfl ?_
  exact k
theorem uX2_leastDifference_74 {d : Nat} {Q : Int → yM → Prop} {M : yM} {x1 : Nat} {x2 : Nat} {x3 : Int} {x4 : Int} {x5 : Int} {x6 : Int} {x7 : Int} {x8 : Int} {x9 : Int} {wx10 : Option yV} (h1 : -2147483648 ≤ x9 ∧ x9 < 2147483648) (h2 : -2147483648 ≤ x6 ∧ x6 < 2147483648) (kt : x9 > x6 → XW kX2_leastDifference d (some .int) (wQi Q) 155 [some (.inr (.inr 81)), some (.inr (.inr x1)), some (.inr (.inr x2)), some (.inl x3), some (.inl x4), some (.inl x5), some (.inl x6), some (.inl x7), some (.inl x8), some (.inl x9), wx10] [] M) (kf : x9 ≤ x6 → XW kX2_leastDifference d (some .int) (wQi Q) 81 [some (.inr (.inr 81)), some (.inr (.inr x1)), some (.inr (.inr x2)), some (.inl x3), some (.inl x4), some (.inl x5), some (.inl x6), some (.inl x7), some (.inl x8), some (.inl x9), wx10] [] M) : XW kX2_leastDifference d (some .int) (wQi Q) 74 [some (.inr (.inr 81)), some (.inr (.inr x1)), some (.inr (.inr x2)), some (.inl x3), some (.inl x4), some (.inl x5), some (.inl x6), some (.inl x7), some (.inl x8), some (.inl x9), wx10] [] M := by
  refine x_iload rfl rfl ?_
  refine x_iload rfl rfl ?_
  exact x_icmpgt rfl h1 h2 kt kf
theorem uX2_leastDifference_81 {d : Nat} {Q : Int → yM → Prop} {M : yM} {x1 : Nat} {x2 : Nat} {x3 : Int} {x4 : Int} {x5 : Int} {x6 : Int} {x7 : Int} {x8 : Int} {x9 : Int} {wx10 : Option yV} (k : XW kX2_leastDifference d (some .int) (wQi Q) 84 [some (.inr (.inr 81)), some (.inr (.inr x1)), some (.inr (.inr x2)), some (.inl x3), some (.inl x4), some (.inl x5), some (.inl x6), some (.inl x7), some (.inl x8), some (.inl x9), some (.inl 0)] [] M) : XW kX2_leastDifference d (some .int) (wQi Q) 81 [some (.inr (.inr 81)), some (.inr (.inr x1)), some (.inr (.inr x2)), some (.inl x3), some (.inl x4), some (.inl x5), some (.inl x6), some (.inl x7), some (.inl x8), some (.inl x9), wx10] [] M := by
  refine x_iconst 0 rfl (by decide) ?_
  refine x_istore rfl (Nat.le_of_ble_eq_true rfl) rfl ?_
  exact k
theorem uX2_leastDifference_84 {d : Nat} {Q : Int → yM → Prop} {M : yM} {x1 : Nat} {x2 : Nat} {x3 : Int} {x4 : Int} {x5 : Int} {x6 : Int} {x7 : Int} {x8 : Int} {x9 : Int} {x10 : Int} (h1 : -2147483648 ≤ x10 ∧ x10 < 2147483648) (h2 : -2147483648 ≤ x5 ∧ x5 < 2147483648) (kt : x10 > x5 → XW kX2_leastDifference d (some .int) (wQi Q) 149 [some (.inr (.inr 81)), some (.inr (.inr x1)), some (.inr (.inr x2)), some (.inl x3), some (.inl x4), some (.inl x5), some (.inl x6), some (.inl x7), some (.inl x8), some (.inl x9), some (.inl x10)] [] M) (kf : x10 ≤ x5 → XW kX2_leastDifference d (some .int) (wQi Q) 91 [some (.inr (.inr 81)), some (.inr (.inr x1)), some (.inr (.inr x2)), some (.inl x3), some (.inl x4), some (.inl x5), some (.inl x6), some (.inl x7), some (.inl x8), some (.inl x9), some (.inl x10)] [] M) : XW kX2_leastDifference d (some .int) (wQi Q) 84 [some (.inr (.inr 81)), some (.inr (.inr x1)), some (.inr (.inr x2)), some (.inl x3), some (.inl x4), some (.inl x5), some (.inl x6), some (.inl x7), some (.inl x8), some (.inl x9), some (.inl x10)] [] M := by
  refine x_iload rfl rfl ?_
  refine x_iload rfl rfl ?_
  exact x_icmpgt rfl h1 h2 kt kf
theorem uX2_leastDifference_91 {d : Nat} {Q : Int → yM → Prop} {M : yM} {x1 : Nat} {x2 : Nat} {x3 : Int} {x4 : Int} {x5 : Int} {x6 : Int} {x7 : Int} {x8 : Int} {x9 : Int} {x10 : Int} (k : XCi d 15 [.inr (.inr 81), .inr (.inr x1), .inl x10, .inl x9, .inl x8] M (fun v M' => XW kX2_leastDifference (d + 1) (some .int) (wQi Q) 102 [some (.inr (.inr 81)), some (.inr (.inr x1)), some (.inr (.inr x2)), some (.inl x3), some (.inl x4), some (.inl x5), some (.inl x6), some (.inl x7), some (.inl x8), some (.inl x9), some (.inl x10)] [.inl v] M')) : XW kX2_leastDifference (d + 1) (some .int) (wQi Q) 91 [some (.inr (.inr 81)), some (.inr (.inr x1)), some (.inr (.inr x2)), some (.inl x3), some (.inl x4), some (.inl x5), some (.inl x6), some (.inl x7), some (.inl x8), some (.inl x9), some (.inl x10)] [] M := by
  refine x_aload_n rfl rfl ?_
  refine x_aload_n rfl rfl ?_
  refine x_iload rfl rfl ?_
  refine x_iload rfl rfl ?_
  refine x_iload rfl rfl ?_
  exact x_calli (args := [.inr (.inr 81), .inr (.inr x1), .inl x10, .inl x9, .inl x8]) rfl rfl rfl k
theorem uX2_leastDifference_102 {d : Nat} {Q : Int → yM → Prop} {M : yM} {x1 : Nat} {x2 : Nat} {x3 : Int} {x4 : Int} {x5 : Int} {x6 : Int} {x7 : Int} {x8 : Int} {x9 : Int} {x10 : Int} {s0 : Int} (k : XCi d 15 [.inr (.inr 81), .inr (.inr x2), .inl x10, .inl x9, .inl x8] M (fun v M' => XW kX2_leastDifference (d + 1) (some .int) (wQi Q) 113 [some (.inr (.inr 81)), some (.inr (.inr x1)), some (.inr (.inr x2)), some (.inl x3), some (.inl x4), some (.inl x5), some (.inl x6), some (.inl x7), some (.inl x8), some (.inl x9), some (.inl x10)] [.inl v, .inl s0] M')) : XW kX2_leastDifference (d + 1) (some .int) (wQi Q) 102 [some (.inr (.inr 81)), some (.inr (.inr x1)), some (.inr (.inr x2)), some (.inl x3), some (.inl x4), some (.inl x5), some (.inl x6), some (.inl x7), some (.inl x8), some (.inl x9), some (.inl x10)] [.inl s0] M := by
  refine x_aload_n rfl rfl ?_
  refine x_aload_n rfl rfl ?_
  refine x_iload rfl rfl ?_
  refine x_iload rfl rfl ?_
  refine x_iload rfl rfl ?_
  exact x_calli (args := [.inr (.inr 81), .inr (.inr x2), .inl x10, .inl x9, .inl x8]) rfl rfl rfl k
theorem uX2_leastDifference_113 {d : Nat} {Q : Int → yM → Prop} {M : yM} {x1 : Nat} {x2 : Nat} {x3 : Int} {x4 : Int} {x5 : Int} {x6 : Int} {x7 : Int} {x8 : Int} {x9 : Int} {x10 : Int} {s0 : Int} {s1 : Int} (h1 : -2147483648 ≤ s1 ∧ s1 < 2147483648) (h2 : -2147483648 ≤ s0 ∧ s0 < 2147483648) (kt : s1 = s0 → XW kX2_leastDifference d (some .int) (wQi Q) 143 [some (.inr (.inr 81)), some (.inr (.inr x1)), some (.inr (.inr x2)), some (.inl x3), some (.inl x4), some (.inl x5), some (.inl x6), some (.inl x7), some (.inl x8), some (.inl x9), some (.inl x10)] [] M) (kf : s1 ≠ s0 → XW kX2_leastDifference d (some .int) (wQi Q) 116 [some (.inr (.inr 81)), some (.inr (.inr x1)), some (.inr (.inr x2)), some (.inl x3), some (.inl x4), some (.inl x5), some (.inl x6), some (.inl x7), some (.inl x8), some (.inl x9), some (.inl x10)] [] M) : XW kX2_leastDifference d (some .int) (wQi Q) 113 [some (.inr (.inr 81)), some (.inr (.inr x1)), some (.inr (.inr x2)), some (.inl x3), some (.inl x4), some (.inl x5), some (.inl x6), some (.inl x7), some (.inl x8), some (.inl x9), some (.inl x10)] [.inl s0, .inl s1] M := by
  exact x_icmpeq rfl h1 h2 kt kf
theorem uX2_leastDifference_116 {d : Nat} {Q : Int → yM → Prop} {M : yM} {x1 : Nat} {x2 : Nat} {x3 : Int} {x4 : Int} {x5 : Int} {x6 : Int} {x7 : Int} {x8 : Int} {x9 : Int} {x10 : Int} (k : Q (yor (yor x10 (yshl x9 (ld M 1 0))) (yshl x8 (2 * (ld M 1 0)))) M) : XW kX2_leastDifference d (some .int) (wQi Q) 116 [some (.inr (.inr 81)), some (.inr (.inr x1)), some (.inr (.inr x2)), some (.inl x3), some (.inl x4), some (.inl x5), some (.inl x6), some (.inl x7), some (.inl x8), some (.inl x9), some (.inl x10)] [] M := by
  refine x_iload rfl rfl ?_
  refine x_iload rfl rfl ?_
  refine x_aload_n rfl rfl ?_
  refine x_getR rfl sh81 rfl ?_
  refine x_getI rfl sh1 rfl ?_
  refine x_ishl rfl ?_
  refine x_ior rfl ?_
  refine x_iload rfl rfl ?_
  refine x_iconst 2 rfl (by decide) ?_
  refine x_aload_n rfl rfl ?_
  refine x_getR rfl sh81 rfl ?_
  refine x_getI rfl sh1 rfl ?_
  refine x_imul rfl ?_
  refine x_ishl rfl ?_
  refine x_ior rfl ?_
  exact x_ireturn rfl k
theorem uX2_leastDifference_143 {d : Nat} {Q : Int → yM → Prop} {M : yM} {x1 : Nat} {x2 : Nat} {x3 : Int} {x4 : Int} {x5 : Int} {x6 : Int} {x7 : Int} {x8 : Int} {x9 : Int} {x10 : Int} (k : XW kX2_leastDifference d (some .int) (wQi Q) 84 [some (.inr (.inr 81)), some (.inr (.inr x1)), some (.inr (.inr x2)), some (.inl x3), some (.inl x4), some (.inl x5), some (.inl x6), some (.inl x7), some (.inl x8), some (.inl x9), some (.inl (x10 + 1))] [] M) : XW kX2_leastDifference d (some .int) (wQi Q) 143 [some (.inr (.inr 81)), some (.inr (.inr x1)), some (.inr (.inr x2)), some (.inl x3), some (.inl x4), some (.inl x5), some (.inl x6), some (.inl x7), some (.inl x8), some (.inl x9), some (.inl x10)] [] M := by
  refine x_iinc 1 rfl (by decide) rfl rfl ?_
  exact x_goto rfl k
theorem uX2_leastDifference_149 {d : Nat} {Q : Int → yM → Prop} {M : yM} {x1 : Nat} {x2 : Nat} {x3 : Int} {x4 : Int} {x5 : Int} {x6 : Int} {x7 : Int} {x8 : Int} {x9 : Int} {x10 : Int} (k : XW kX2_leastDifference d (some .int) (wQi Q) 74 [some (.inr (.inr 81)), some (.inr (.inr x1)), some (.inr (.inr x2)), some (.inl x3), some (.inl x4), some (.inl x5), some (.inl x6), some (.inl x7), some (.inl x8), some (.inl (x9 + 1)), some (.inl x10)] [] M) : XW kX2_leastDifference d (some .int) (wQi Q) 149 [some (.inr (.inr 81)), some (.inr (.inr x1)), some (.inr (.inr x2)), some (.inl x3), some (.inl x4), some (.inl x5), some (.inl x6), some (.inl x7), some (.inl x8), some (.inl x9), some (.inl x10)] [] M := by
  refine x_iinc 1 rfl (by decide) rfl rfl ?_
  exact x_goto rfl k
theorem uX2_leastDifference_155 {d : Nat} {Q : Int → yM → Prop} {M : yM} {x1 : Nat} {x2 : Nat} {x3 : Int} {x4 : Int} {x5 : Int} {x6 : Int} {x7 : Int} {x8 : Int} {x9 : Int} {wx10 : Option yV} (k : XW kX2_leastDifference d (some .int) (wQi Q) 64 [some (.inr (.inr 81)), some (.inr (.inr x1)), some (.inr (.inr x2)), some (.inl x3), some (.inl x4), some (.inl x5), some (.inl x6), some (.inl x7), some (.inl (x8 + 1)), some (.inl x9), wx10] [] M) : XW kX2_leastDifference d (some .int) (wQi Q) 155 [some (.inr (.inr 81)), some (.inr (.inr x1)), some (.inr (.inr x2)), some (.inl x3), some (.inl x4), some (.inl x5), some (.inl x6), some (.inl x7), some (.inl x8), some (.inl x9), wx10] [] M := by
  refine x_iinc 1 rfl (by decide) rfl rfl ?_
  exact x_goto rfl k
theorem uX2_leastDifference_161 {d : Nat} {Q : Int → yM → Prop} {M : yM} {x1 : Nat} {x2 : Nat} {x3 : Int} {x4 : Int} {x5 : Int} {x6 : Int} {x7 : Int} {x8 : Int} {wx9 : Option yV} {wx10 : Option yV} (k : Q (-9) M) : XW kX2_leastDifference d (some .int) (wQi Q) 161 [some (.inr (.inr 81)), some (.inr (.inr x1)), some (.inr (.inr x2)), some (.inl x3), some (.inl x4), some (.inl x5), some (.inl x6), some (.inl x7), some (.inl x8), wx9, wx10] [] M := by
  refine x_bipush (-9) rfl (by decide) ?_
  exact x_ireturn rfl k
theorem eX3_forget {d : Nat} {Q : yM → Prop} {M : yM}   (h : XW kX3_forget d none (wQv Q) 0 [some (.inr (.inr 65))] [] M) : XCv d 20 [.inr (.inr 65)] M Q :=
  XC.ofW (Mm := (yX3_forget, cX3_forget, 1, none, 4, kX3_forget)) rfl (rcv_ok sh65) rfl rfl h
theorem uX3_forget_0 {d : Nat} {Q : yM → Prop} {M : yM}  (k : ∀ M', M' = (put M 65 6 0) → XW kX3_forget d none (wQv Q) 5 [some (.inr (.inr 65))] [] M') : XW kX3_forget d none (wQv Q) 0 [some (.inr (.inr 65))] [] M := by
  refine x_aload_n rfl rfl ?_
  refine x_iconst 0 rfl (by decide) ?_
  refine x_putZ rfl rfl sh65 rfl (by decide) ?_
  exact k _ rfl
theorem uX3_forget_5 {d : Nat} {Q : yM → Prop} {M : yM}  (k : ∀ M', M' = (put M 65 8 0) → XW kX3_forget d none (wQv Q) 10 [some (.inr (.inr 65))] [] M') : XW kX3_forget d none (wQv Q) 5 [some (.inr (.inr 65))] [] M := by
  refine x_aload_n rfl rfl ?_
  refine x_iconst 0 rfl (by decide) ?_
  refine x_putZ rfl rfl sh65 rfl (by decide) ?_
  exact k _ rfl
theorem uX3_forget_10 {d : Nat} {Q : yM → Prop} {M : yM}  (k : ∀ M', M' = (put M 65 9 0) → XW kX3_forget d none (wQv Q) 15 [some (.inr (.inr 65))] [] M') : XW kX3_forget d none (wQv Q) 10 [some (.inr (.inr 65))] [] M := by
  refine x_aload_n rfl rfl ?_
  refine x_iconst 0 rfl (by decide) ?_
  refine x_putZ rfl rfl sh65 rfl (by decide) ?_
  exact k _ rfl
theorem uX3_forget_15 {d : Nat} {Q : yM → Prop} {M : yM}  (k : Q M) : XW kX3_forget d none (wQv Q) 15 [some (.inr (.inr 65))] [] M := by
  exact x_return rfl k
