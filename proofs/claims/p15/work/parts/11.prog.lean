theorem xchk_code {w : Nat} {own : String} {ini ini' : Bool} {cc : ByteArray} {C : xC} (ho : own = xRN w) (hi : ini' = ini) (h : ∀ pc I, C pc = some I → xchk w ini cc pc I = true) : xCode xP own ini' cc C := by
  subst ho; subst hi
  intro pc I hI
  have h1 := h pc I hI
  unfold xchk at h1
  simp only [Bool.and_eq_true, decide_eq_true_eq] at h1
  exact ⟨h1.1, yok_ok h1.2⟩
def xGM (M : xM) : Prop := plainName M.1.cls = true ∧ xMem (.code M.1 M.2.1 M.2.2.1 M.2.2.2.1) ∧ xCode xP M.1.cls (M.1.name == "<init>") M.2.1 M.2.2.2.2.2
theorem xmc {i : Nat} {c : Cond} (h : xmi i c = true) : xMem c := of_decide_eq_true (xmi_ok h)
/-- a method's row of the tables by its place: the bytes as a list -/
def xcB (i : Nat) (y : MethodName) (b : ByteArray) (m : Nat) (r : Option FieldType) : Bool := match lw_tbl[i]? with
  | some (.code n b' m' r') => decide (n = y) && decide (b'.data.toList = b.data.toList) && decide (m' = m) && decide (r' = r) && xgw (.code y b m r)
  | _ => false
theorem xcB_ok {i : Nat} {y : MethodName} {b : ByteArray} {m : Nat} {r : Option FieldType} (h : xcB i y b m r = true) : xMem (.code y b m r) := by
  unfold xcB at h
  split at h
  · next n b' m' r' e =>
    simp only [Bool.and_eq_true, decide_eq_true_eq] at h
    obtain ⟨⟨⟨⟨h1, h2⟩, h3⟩, h4⟩, h5⟩ := h
    have hb : b' = b := by
      cases b' with
      | mk d' =>
        cases b with
        | mk d =>
          have h6 : d' = d := Array.toList_inj.mp h2
          rw [h6]
    subst h1
    subst hb
    subst h3
    subst h4
    exact ⟨List.mem_of_getElem? e, h5⟩
  · cases h
theorem xpn_0 : plainName RX0 = true := by decide +kernel
theorem xpn_1 : plainName RX1 = true := by decide +kernel
theorem xpn_2 : plainName RX2 = true := by decide +kernel
theorem xpn_3 : plainName RX3 = true := by decide +kernel
theorem xpn_4 : plainName RX4 = true := by decide +kernel
theorem xpn_5 : plainName RX5 = true := by decide +kernel
theorem xpn_6 : plainName RX6 = true := by decide +kernel
theorem xpn_7 : plainName RX7 = true := by decide +kernel
theorem xpn_8 : plainName RX8 = true := by decide +kernel
theorem xpn_9 : plainName RX9 = true := by decide +kernel
theorem xpn_10 : plainName RX10 = true := by decide +kernel
theorem xpn_11 : plainName RX11 = true := by decide +kernel
theorem xpn_12 : plainName RX12 = true := by decide +kernel
theorem xpn_13 : plainName RJ6 = true := by decide +kernel
theorem xpn_14 : plainName RJ13 = true := by decide +kernel
theorem xpn_15 : plainName RJ7 = true := by decide +kernel
theorem gX0_init : xGM (yX0_init, cX0_init, 3, none, 1, kX0_init) := ⟨xpn_0, xcB_ok (i := 347) (by decide +kernel), xchk_code (w := 0) (ini := true) rfl (by decide +kernel) qX0_init⟩
theorem gX0_forget : xGM (yX0_forget, cX0_forget, 1, none, 1, kX0_forget) := ⟨xpn_0, xcB_ok (i := 368) (by decide +kernel), xchk_code (w := 0) (ini := false) rfl (by decide +kernel) qX0_forget⟩
theorem gX0_rowsOf : xGM (yX0_rowsOf, cX0_rowsOf, 2, (some .int), 1, kX0_rowsOf) := ⟨xpn_0, xcB_ok (i := 895) (by decide +kernel), xchk_code (w := 0) (ini := false) rfl (by decide +kernel) qX0_rowsOf⟩
theorem gX0_wholesOf : xGM (yX0_wholesOf, cX0_wholesOf, 2, (some .int), 1, kX0_wholesOf) := ⟨xpn_0, xcB_ok (i := 905) (by decide +kernel), xchk_code (w := 0) (ini := false) rfl (by decide +kernel) qX0_wholesOf⟩
theorem gX0_restart : xGM (yX0_restart, cX0_restart, 3, none, 1, kX0_restart) := ⟨xpn_0, xcB_ok (i := 899) (by decide +kernel), xchk_code (w := 0) (ini := false) rfl (by decide +kernel) qX0_restart⟩
theorem gX1_init : xGM (yX1_init, cX1_init, 1, none, 2, kX1_init) := ⟨xpn_1, xcB_ok (i := 374) (by decide +kernel), xchk_code (w := 1) (ini := true) rfl (by decide +kernel) qX1_init⟩
theorem gX1_add : xGM (yX1_add, cX1_add, 2, none, 2, kX1_add) := ⟨xpn_1, xcB_ok (i := 816) (by decide +kernel), xchk_code (w := 1) (ini := false) rfl (by decide +kernel) qX1_add⟩
theorem gX1_firstFault : xGM (yX1_firstFault, cX1_firstFault, 5, (some .int), 2, kX1_firstFault) := ⟨xpn_1, xcB_ok (i := 831) (by decide +kernel), xchk_code (w := 1) (ini := false) rfl (by decide +kernel) qX1_firstFault⟩
theorem gX1_standsAsFactor : xGM (yX1_standsAsFactor, cX1_standsAsFactor, 5, (some .boolean), 2, kX1_standsAsFactor) := ⟨xpn_1, xcB_ok (i := 854) (by decide +kernel), xchk_code (w := 1) (ini := false) rfl (by decide +kernel) qX1_standsAsFactor⟩
theorem gX1_standsAfter : xGM (yX1_standsAfter, cX1_standsAfter, 2, (some .boolean), 2, kX1_standsAfter) := ⟨xpn_1, xcB_ok (i := 835) (by decide +kernel), xchk_code (w := 1) (ini := false) rfl (by decide +kernel) qX1_standsAfter⟩
theorem gX1_waits : xGM (yX1_waits, cX1_waits, 2, (some .boolean), 2, kX1_waits) := ⟨xpn_1, xcB_ok (i := 850) (by decide +kernel), xchk_code (w := 1) (ini := false) rfl (by decide +kernel) qX1_waits⟩
theorem gX1_writeWaiting : xGM (yX1_writeWaiting, cX1_writeWaiting, 2, none, 2, kX1_writeWaiting) := ⟨xpn_1, xcB_ok (i := 839) (by decide +kernel), xchk_code (w := 1) (ini := false) rfl (by decide +kernel) qX1_writeWaiting⟩
theorem gX1_write : xGM (yX1_write, cX1_write, 2, none, 2, kX1_write) := ⟨xpn_1, xcB_ok (i := 846) (by decide +kernel), xchk_code (w := 1) (ini := false) rfl (by decide +kernel) qX1_write⟩
theorem gX1_strength : xGM (yX1_strength, cX1_strength, 1, (some .int), 0, kX1_strength) := ⟨xpn_1, xcB_ok (i := 842) (by decide +kernel), xchk_code (w := 1) (ini := false) rfl (by decide +kernel) qX1_strength⟩
theorem gX2_init : xGM (yX2_init, cX2_init, 2, none, 3, kX2_init) := ⟨xpn_2, xcB_ok (i := 415) (by decide +kernel), xchk_code (w := 2) (ini := true) rfl (by decide +kernel) qX2_init⟩
theorem gX2_evaluate : xGM (yX2_evaluate, cX2_evaluate, 9, (some .int), 3, kX2_evaluate) := ⟨xpn_2, xcB_ok (i := 867) (by decide +kernel), xchk_code (w := 2) (ini := false) rfl (by decide +kernel) qX2_evaluate⟩
theorem gX2_combined : xGM (yX2_combined, cX2_combined, 4, (some .int), 3, kX2_combined) := ⟨xpn_2, xcB_ok (i := 873) (by decide +kernel), xchk_code (w := 2) (ini := false) rfl (by decide +kernel) qX2_combined⟩
theorem gX2_leaf : xGM (yX2_leaf, cX2_leaf, 5, (some .int), 3, kX2_leaf) := ⟨xpn_2, xcB_ok (i := 878) (by decide +kernel), xchk_code (w := 2) (ini := false) rfl (by decide +kernel) qX2_leaf⟩
theorem gX2_leastDifference : xGM (yX2_leastDifference, cX2_leastDifference, 11, (some .int), 3, kX2_leastDifference) := ⟨xpn_2, xcB_ok (i := 886) (by decide +kernel), xchk_code (w := 2) (ini := false) rfl (by decide +kernel) qX2_leastDifference⟩
theorem gX3_init : xGM (yX3_init, cX3_init, 3, none, 4, kX3_init) := ⟨xpn_3, xcB_ok (i := 271) (by decide +kernel), xchk_code (w := 3) (ini := true) rfl (by decide +kernel) qX3_init⟩
theorem gX3_forget : xGM (yX3_forget, cX3_forget, 1, none, 4, kX3_forget) := ⟨xpn_3, xcB_ok (i := 509) (by decide +kernel), xchk_code (w := 3) (ini := false) rfl (by decide +kernel) qX3_forget⟩
theorem gX3_howMany : xGM (yX3_howMany, cX3_howMany, 1, (some .int), 4, kX3_howMany) := ⟨xpn_3, xcB_ok (i := 761) (by decide +kernel), xchk_code (w := 3) (ini := false) rfl (by decide +kernel) qX3_howMany⟩
theorem gX3_areThere : xGM (yX3_areThere, cX3_areThere, 1, (some .boolean), 4, kX3_areThere) := ⟨xpn_3, xcB_ok (i := 711) (by decide +kernel), xchk_code (w := 3) (ini := false) rfl (by decide +kernel) qX3_areThere⟩
theorem gX3_findLeast : xGM (yX3_findLeast, cX3_findLeast, 3, (some .boolean), 4, kX3_findLeast) := ⟨xpn_3, xcB_ok (i := 769) (by decide +kernel), xchk_code (w := 3) (ini := false) rfl (by decide +kernel) qX3_findLeast⟩
theorem gX3_fixLeast : xGM (yX3_fixLeast, cX3_fixLeast, 6, none, 4, kX3_fixLeast) := ⟨xpn_3, xcB_ok (i := 774) (by decide +kernel), xchk_code (w := 3) (ini := false) rfl (by decide +kernel) qX3_fixLeast⟩
theorem gX4_init : xGM (yX4_init, cX4_init, 3, none, 5, kX4_init) := ⟨xpn_4, xcB_ok (i := 241) (by decide +kernel), xchk_code (w := 4) (ini := true) rfl (by decide +kernel) qX4_init⟩
theorem gX4_forget : xGM (yX4_forget, cX4_forget, 2, none, 5, kX4_forget) := ⟨xpn_4, xcB_ok (i := 505) (by decide +kernel), xchk_code (w := 4) (ini := false) rfl (by decide +kernel) qX4_forget⟩
theorem gX4_costOf : xGM (yX4_costOf, cX4_costOf, 2, (some .int), 5, kX4_costOf) := ⟨xpn_4, xcB_ok (i := 698) (by decide +kernel), xchk_code (w := 4) (ini := false) rfl (by decide +kernel) qX4_costOf⟩
theorem gX4_cellsBy : xGM (yX4_cellsBy, cX4_cellsBy, 3, (some (.array .int)), 5, kX4_cellsBy) := ⟨xpn_4, xcB_ok (i := 640) (by decide +kernel), xchk_code (w := 4) (ini := false) rfl (by decide +kernel) qX4_cellsBy⟩
theorem gX4_once : xGM (yX4_once, cX4_once, 6, (some .int), 5, kX4_once) := ⟨xpn_4, xcB_ok (i := 645) (by decide +kernel), xchk_code (w := 4) (ini := false) rfl (by decide +kernel) qX4_once⟩
theorem gX4_full : xGM (yX4_full, cX4_full, 5, (some .int), 5, kX4_full) := ⟨xpn_4, xcB_ok (i := 658) (by decide +kernel), xchk_code (w := 4) (ini := false) rfl (by decide +kernel) qX4_full⟩
theorem gX4_differs : xGM (yX4_differs, cX4_differs, 3, (some .boolean), 5, kX4_differs) := ⟨xpn_4, xcB_ok (i := 662) (by decide +kernel), xchk_code (w := 4) (ini := false) rfl (by decide +kernel) qX4_differs⟩
theorem gX4_trying : xGM (yX4_trying, cX4_trying, 5, (some .int), 5, kX4_trying) := ⟨xpn_4, xcB_ok (i := 666) (by decide +kernel), xchk_code (w := 4) (ini := false) rfl (by decide +kernel) qX4_trying⟩
theorem gX4_someGo : xGM (yX4_someGo, cX4_someGo, 8, (some .boolean), 5, kX4_someGo) := ⟨xpn_4, xcB_ok (i := 670) (by decide +kernel), xchk_code (w := 4) (ini := false) rfl (by decide +kernel) qX4_someGo⟩
theorem gX4_stays : xGM (yX4_stays, cX4_stays, 6, (some .boolean), 5, kX4_stays) := ⟨xpn_4, xcB_ok (i := 674) (by decide +kernel), xchk_code (w := 4) (ini := false) rfl (by decide +kernel) qX4_stays⟩
theorem gX5_init : xGM (yX5_init, cX5_init, 1, none, 6, kX5_init) := ⟨xpn_5, xcB_ok (i := 156) (by decide +kernel), xchk_code (w := 5) (ini := true) rfl (by decide +kernel) qX5_init⟩
theorem gX5_free : xGM (yX5_free, cX5_free, 5, none, 6, kX5_free) := ⟨xpn_5, xcB_ok (i := 177) (by decide +kernel), xchk_code (w := 5) (ini := false) rfl (by decide +kernel) qX5_free⟩
theorem gX5_has : xGM (yX5_has, cX5_has, 2, (some .boolean), 6, kX5_has) := ⟨xpn_5, xcB_ok (i := 629) (by decide +kernel), xchk_code (w := 5) (ini := false) rfl (by decide +kernel) qX5_has⟩
theorem gX6_init : xGM (yX6_init, cX6_init, 4, none, 7, kX6_init) := ⟨xpn_6, xcB_ok (i := 310) (by decide +kernel), xchk_code (w := 6) (ini := true) rfl (by decide +kernel) qX6_init⟩
theorem gX6_forget : xGM (yX6_forget, cX6_forget, 1, none, 7, kX6_forget) := ⟨xpn_6, xcB_ok (i := 513) (by decide +kernel), xchk_code (w := 6) (ini := false) rfl (by decide +kernel) qX6_forget⟩
theorem gX6_listPairs : xGM (yX6_listPairs, cX6_listPairs, 3, (some .boolean), 7, kX6_listPairs) := ⟨xpn_6, xcB_ok (i := 789) (by decide +kernel), xchk_code (w := 6) (ini := false) rfl (by decide +kernel) qX6_listPairs⟩
theorem gX6_leastSet : xGM (yX6_leastSet, cX6_leastSet, 4, (some .int), 7, kX6_leastSet) := ⟨xpn_6, xcB_ok (i := 794) (by decide +kernel), xchk_code (w := 6) (ini := false) rfl (by decide +kernel) qX6_leastSet⟩
theorem gX6_isGranted : xGM (yX6_isGranted, cX6_isGranted, 3, (some .boolean), 7, kX6_isGranted) := ⟨xpn_6, xcB_ok (i := 808) (by decide +kernel), xchk_code (w := 6) (ini := false) rfl (by decide +kernel) qX6_isGranted⟩
theorem gX6_canBe : xGM (yX6_canBe, cX6_canBe, 6, (some .boolean), 7, kX6_canBe) := ⟨xpn_6, xcB_ok (i := 798) (by decide +kernel), xchk_code (w := 6) (ini := false) rfl (by decide +kernel) qX6_canBe⟩
theorem gX6_pairsAsTold : xGM (yX6_pairsAsTold, cX6_pairsAsTold, 4, (some .int), 7, kX6_pairsAsTold) := ⟨xpn_6, xcB_ok (i := 803) (by decide +kernel), xchk_code (w := 6) (ini := false) rfl (by decide +kernel) qX6_pairsAsTold⟩
theorem gX7_init : xGM (yX7_init, cX7_init, 3, none, 8, kX7_init) := ⟨xpn_7, xcB_ok (i := 193) (by decide +kernel), xchk_code (w := 7) (ini := true) rfl (by decide +kernel) qX7_init⟩
theorem gX7_run : xGM (yX7_run, cX7_run, 5, (some .int), 8, kX7_run) := ⟨xpn_7, xcB_ok (i := 715) (by decide +kernel), xchk_code (w := 7) (ini := false) rfl (by decide +kernel) qX7_run⟩
theorem gX7_listBetween : xGM (yX7_listBetween, cX7_listBetween, 4, none, 8, kX7_listBetween) := ⟨xpn_7, xcB_ok (i := 719) (by decide +kernel), xchk_code (w := 7) (ini := false) rfl (by decide +kernel) qX7_listBetween⟩
theorem gX7_pairsNotAll : xGM (yX7_pairsNotAll, cX7_pairsNotAll, 5, (some .long), 8, kX7_pairsNotAll) := ⟨xpn_7, xcB_ok (i := 727) (by decide +kernel), xchk_code (w := 7) (ini := false) rfl (by decide +kernel) qX7_pairsNotAll⟩
theorem gX7_goOn : xGM (yX7_goOn, cX7_goOn, 6, (some .boolean), 0, kX7_goOn) := ⟨xpn_7, xcB_ok (i := 733) (by decide +kernel), xchk_code (w := 7) (ini := false) rfl (by decide +kernel) qX7_goOn⟩
theorem gX7_narrowestOpen : xGM (yX7_narrowestOpen, cX7_narrowestOpen, 8, (some .int), 8, kX7_narrowestOpen) := ⟨xpn_7, xcB_ok (i := 737) (by decide +kernel), xchk_code (w := 7) (ini := false) rfl (by decide +kernel) qX7_narrowestOpen⟩
theorem gX7_pointsToTry : xGM (yX7_pointsToTry, cX7_pointsToTry, 8, (some .int), 8, kX7_pointsToTry) := ⟨xpn_7, xcB_ok (i := 741) (by decide +kernel), xchk_code (w := 7) (ini := false) rfl (by decide +kernel) qX7_pointsToTry⟩
theorem gX7_takeBox : xGM (yX7_takeBox, cX7_takeBox, 6, none, 8, kX7_takeBox) := ⟨xpn_7, xcB_ok (i := 746) (by decide +kernel), xchk_code (w := 7) (ini := false) rfl (by decide +kernel) qX7_takeBox⟩
theorem gX7_takeLowest : xGM (yX7_takeLowest, cX7_takeLowest, 4, none, 8, kX7_takeLowest) := ⟨xpn_7, xcB_ok (i := 750) (by decide +kernel), xchk_code (w := 7) (ini := false) rfl (by decide +kernel) qX7_takeLowest⟩
theorem gX7_isWhole : xGM (yX7_isWhole, cX7_isWhole, 8, (some .boolean), 8, kX7_isWhole) := ⟨xpn_7, xcB_ok (i := 756) (by decide +kernel), xchk_code (w := 7) (ini := false) rfl (by decide +kernel) qX7_isWhole⟩
theorem gX8_init : xGM (yX8_init, cX8_init, 2, none, 9, kX8_init) := ⟨xpn_8, xcB_ok (i := 182) (by decide +kernel), xchk_code (w := 8) (ini := true) rfl (by decide +kernel) qX8_init⟩
theorem gX8_pass : xGM (yX8_pass, cX8_pass, 7, (some .int), 9, kX8_pass) := ⟨xpn_8, xcB_ok (i := 652) (by decide +kernel), xchk_code (w := 8) (ini := false) rfl (by decide +kernel) qX8_pass⟩
theorem gX8_settles : xGM (yX8_settles, cX8_settles, 14, (some .boolean), 9, kX8_settles) := ⟨xpn_8, xcB_ok (i := 682) (by decide +kernel), xchk_code (w := 8) (ini := false) rfl (by decide +kernel) qX8_settles⟩
theorem gX8_makeSingle : xGM (yX8_makeSingle, cX8_makeSingle, 5, none, 9, kX8_makeSingle) := ⟨xpn_8, xcB_ok (i := 678) (by decide +kernel), xchk_code (w := 8) (ini := false) rfl (by decide +kernel) qX8_makeSingle⟩
theorem gX9_init : xGM (yX9_init, cX9_init, 1, none, 10, kX9_init) := ⟨xpn_9, xcB_ok (i := 95) (by decide +kernel), xchk_code (w := 9) (ini := true) rfl (by decide +kernel) qX9_init⟩
theorem gX9_all : xGM (yX9_all, cX9_all, 1, (some .int), 10, kX9_all) := ⟨xpn_9, xcB_ok (i := 131) (by decide +kernel), xchk_code (w := 9) (ini := false) rfl (by decide +kernel) qX9_all⟩
theorem gX9_hasSet : xGM (yX9_hasSet, cX9_hasSet, 2, (some .boolean), 10, kX9_hasSet) := ⟨xpn_9, xcB_ok (i := 552) (by decide +kernel), xchk_code (w := 9) (ini := false) rfl (by decide +kernel) qX9_hasSet⟩
theorem gX9_restart : xGM (yX9_restart, cX9_restart, 3, none, 10, kX9_restart) := ⟨xpn_9, xcB_ok (i := 123) (by decide +kernel), xchk_code (w := 9) (ini := false) rfl (by decide +kernel) qX9_restart⟩
theorem gX9_makeTurns : xGM (yX9_makeTurns, cX9_makeTurns, 5, none, 10, kX9_makeTurns) := ⟨xpn_9, xcB_ok (i := 525) (by decide +kernel), xchk_code (w := 9) (ini := false) rfl (by decide +kernel) qX9_makeTurns⟩
theorem gX9_freeTriangles : xGM (yX9_freeTriangles, cX9_freeTriangles, 4, none, 10, kX9_freeTriangles) := ⟨xpn_9, xcB_ok (i := 127) (by decide +kernel), xchk_code (w := 9) (ini := false) rfl (by decide +kernel) qX9_freeTriangles⟩
theorem gX9_mayBe : xGM (yX9_mayBe, cX9_mayBe, 4, (some .boolean), 10, kX9_mayBe) := ⟨xpn_9, xcB_ok (i := 536) (by decide +kernel), xchk_code (w := 9) (ini := false) rfl (by decide +kernel) qX9_mayBe⟩
theorem gX9_setTriangle : xGM (yX9_setTriangle, cX9_setTriangle, 8, none, 10, kX9_setTriangle) := ⟨xpn_9, xcB_ok (i := 540) (by decide +kernel), xchk_code (w := 9) (ini := false) rfl (by decide +kernel) qX9_setTriangle⟩
theorem gX9_setOne : xGM (yX9_setOne, cX9_setOne, 5, none, 10, kX9_setOne) := ⟨xpn_9, xcB_ok (i := 544) (by decide +kernel), xchk_code (w := 9) (ini := false) rfl (by decide +kernel) qX9_setOne⟩
theorem gX9_prepare : xGM (yX9_prepare, cX9_prepare, 4, none, 10, kX9_prepare) := ⟨xpn_9, xcB_ok (i := 138) (by decide +kernel), xchk_code (w := 9) (ini := false) rfl (by decide +kernel) qX9_prepare⟩
theorem gX9_prepareHalves : xGM (yX9_prepareHalves, cX9_prepareHalves, 9, none, 10, kX9_prepareHalves) := ⟨xpn_9, xcB_ok (i := 151) (by decide +kernel), xchk_code (w := 9) (ini := false) rfl (by decide +kernel) qX9_prepareHalves⟩
theorem gX9_turnSet : xGM (yX9_turnSet, cX9_turnSet, 2, (some .int), 10, kX9_turnSet) := ⟨xpn_9, xcB_ok (i := 564) (by decide +kernel), xchk_code (w := 9) (ini := false) rfl (by decide +kernel) qX9_turnSet⟩
theorem gX9_joinSets : xGM (yX9_joinSets, cX9_joinSets, 7, (some .int), 10, kX9_joinSets) := ⟨xpn_9, xcB_ok (i := 556) (by decide +kernel), xchk_code (w := 9) (ini := false) rfl (by decide +kernel) qX9_joinSets⟩
theorem gX9_firstFault : xGM (yX9_firstFault, cX9_firstFault, 6, (some .int), 10, kX9_firstFault) := ⟨xpn_9, xcB_ok (i := 572) (by decide +kernel), xchk_code (w := 9) (ini := false) rfl (by decide +kernel) qX9_firstFault⟩
theorem gX9_howManyTriangles : xGM (yX9_howManyTriangles, cX9_howManyTriangles, 3, (some .int), 10, kX9_howManyTriangles) := ⟨xpn_9, xcB_ok (i := 913) (by decide +kernel), xchk_code (w := 9) (ini := false) rfl (by decide +kernel) qX9_howManyTriangles⟩
theorem gX9_copyFrom : xGM (yX9_copyFrom, cX9_copyFrom, 2, none, 10, kX9_copyFrom) := ⟨xpn_9, xcB_ok (i := 585) (by decide +kernel), xchk_code (w := 9) (ini := false) rfl (by decide +kernel) qX9_copyFrom⟩
theorem gX9_canFuse : xGM (yX9_canFuse, cX9_canFuse, 3, (some .boolean), 10, kX9_canFuse) := ⟨xpn_9, xcB_ok (i := 581) (by decide +kernel), xchk_code (w := 9) (ini := false) rfl (by decide +kernel) qX9_canFuse⟩
theorem gX9_becomeFused : xGM (yX9_becomeFused, cX9_becomeFused, 8, none, 10, kX9_becomeFused) := ⟨xpn_9, xcB_ok (i := 592) (by decide +kernel), xchk_code (w := 9) (ini := false) rfl (by decide +kernel) qX9_becomeFused⟩
theorem gX9_renamed : xGM (yX9_renamed, cX9_renamed, 4, (some .int), 10, kX9_renamed) := ⟨xpn_9, xcB_ok (i := 602) (by decide +kernel), xchk_code (w := 9) (ini := false) rfl (by decide +kernel) qX9_renamed⟩
theorem gX9_becomeMadeOfTwo : xGM (yX9_becomeMadeOfTwo, cX9_becomeMadeOfTwo, 8, none, 10, kX9_becomeMadeOfTwo) := ⟨xpn_9, xcB_ok (i := 614) (by decide +kernel), xchk_code (w := 9) (ini := false) rfl (by decide +kernel) qX9_becomeMadeOfTwo⟩
theorem gX9_paired : xGM (yX9_paired, cX9_paired, 5, (some .int), 0, kX9_paired) := ⟨xpn_9, xcB_ok (i := 617) (by decide +kernel), xchk_code (w := 9) (ini := false) rfl (by decide +kernel) qX9_paired⟩
theorem gX10_init : xGM (yX10_init, cX10_init, 1, none, 11, kX10_init) := ⟨xpn_10, xcB_ok (i := 429) (by decide +kernel), xchk_code (w := 10) (ini := true) rfl (by decide +kernel) qX10_init⟩
theorem gX10_empty : xGM (yX10_empty, cX10_empty, 1, none, 11, kX10_empty) := ⟨xpn_10, xcB_ok (i := 448) (by decide +kernel), xchk_code (w := 10) (ini := false) rfl (by decide +kernel) qX10_empty⟩
theorem gX10_takeFrom : xGM (yX10_takeFrom, cX10_takeFrom, 2, none, 11, kX10_takeFrom) := ⟨xpn_10, xcB_ok (i := 858) (by decide +kernel), xchk_code (w := 10) (ini := false) rfl (by decide +kernel) qX10_takeFrom⟩
theorem gX11_init : xGM (yX11_init, cX11_init, 4, none, 12, kX11_init) := ⟨xpn_11, xcB_ok (i := 87) (by decide +kernel), xchk_code (w := 11) (ini := true) rfl (by decide +kernel) qX11_init⟩
theorem gX11_kinds : xGM (yX11_kinds, cX11_kinds, 3, (some .int), 12, kX11_kinds) := ⟨xpn_11, xcB_ok (i := 489) (by decide +kernel), xchk_code (w := 11) (ini := false) rfl (by decide +kernel) qX11_kinds⟩
theorem gX11_turn : xGM (yX11_turn, cX11_turn, 3, (some .int), 12, kX11_turn) := ⟨xpn_11, xcB_ok (i := 517) (by decide +kernel), xchk_code (w := 11) (ini := false) rfl (by decide +kernel) qX11_turn⟩
theorem gX11_triangle : xGM (yX11_triangle, cX11_triangle, 6, (some .int), 12, kX11_triangle) := ⟨xpn_11, xcB_ok (i := 529) (by decide +kernel), xchk_code (w := 11) (ini := false) rfl (by decide +kernel) qX11_triangle⟩
theorem gX11_join : xGM (yX11_join, cX11_join, 3, (some .int), 12, kX11_join) := ⟨xpn_11, xcB_ok (i := 548) (by decide +kernel), xchk_code (w := 11) (ini := false) rfl (by decide +kernel) qX11_join⟩
theorem gX11_turned : xGM (yX11_turned, cX11_turned, 2, (some .int), 12, kX11_turned) := ⟨xpn_11, xcB_ok (i := 560) (by decide +kernel), xchk_code (w := 11) (ini := false) rfl (by decide +kernel) qX11_turned⟩
theorem gX11_fault : xGM (yX11_fault, cX11_fault, 1, (some .int), 12, kX11_fault) := ⟨xpn_11, xcB_ok (i := 568) (by decide +kernel), xchk_code (w := 11) (ini := false) rfl (by decide +kernel) qX11_fault⟩
theorem gX11_fuse : xGM (yX11_fuse, cX11_fuse, 3, (some .int), 12, kX11_fuse) := ⟨xpn_11, xcB_ok (i := 577) (by decide +kernel), xchk_code (w := 11) (ini := false) rfl (by decide +kernel) qX11_fuse⟩
theorem gX11_keep : xGM (yX11_keep, cX11_keep, 1, (some .int), 12, kX11_keep) := ⟨xpn_11, xcB_ok (i := 606) (by decide +kernel), xchk_code (w := 11) (ini := false) rfl (by decide +kernel) qX11_keep⟩
theorem gX11_shelf : xGM (yX11_shelf, cX11_shelf, 2, (some .int), 12, kX11_shelf) := ⟨xpn_11, xcB_ok (i := 610) (by decide +kernel), xchk_code (w := 11) (ini := false) rfl (by decide +kernel) qX11_shelf⟩
theorem gX11_points : xGM (yX11_points, cX11_points, 3, (some .int), 12, kX11_points) := ⟨xpn_11, xcB_ok (i := 621) (by decide +kernel), xchk_code (w := 11) (ini := false) rfl (by decide +kernel) qX11_points⟩
theorem gX11_tell : xGM (yX11_tell, cX11_tell, 5, (some .int), 12, kX11_tell) := ⟨xpn_11, xcB_ok (i := 625) (by decide +kernel), xchk_code (w := 11) (ini := false) rfl (by decide +kernel) qX11_tell⟩
theorem gX11_narrow : xGM (yX11_narrow, cX11_narrow, 5, (some .int), 12, kX11_narrow) := ⟨xpn_11, xcB_ok (i := 633) (by decide +kernel), xchk_code (w := 11) (ini := false) rfl (by decide +kernel) qX11_narrow⟩
theorem gX11_isVoid : xGM (yX11_isVoid, cX11_isVoid, 2, (some .int), 12, kX11_isVoid) := ⟨xpn_11, xcB_ok (i := 702) (by decide +kernel), xchk_code (w := 11) (ini := false) rfl (by decide +kernel) qX11_isVoid⟩
theorem gX11_fillings : xGM (yX11_fillings, cX11_fillings, 3, (some .int), 12, kX11_fillings) := ⟨xpn_11, xcB_ok (i := 707) (by decide +kernel), xchk_code (w := 11) (ini := false) rfl (by decide +kernel) qX11_fillings⟩
theorem gX11_first : xGM (yX11_first, cX11_first, 3, (some .int), 12, kX11_first) := ⟨xpn_11, xcB_ok (i := 765) (by decide +kernel), xchk_code (w := 11) (ini := false) rfl (by decide +kernel) qX11_first⟩
theorem gX11_sure : xGM (yX11_sure, cX11_sure, 3, (some .int), 12, kX11_sure) := ⟨xpn_11, xcB_ok (i := 781) (by decide +kernel), xchk_code (w := 11) (ini := false) rfl (by decide +kernel) qX11_sure⟩
theorem gX11_reason : xGM (yX11_reason, cX11_reason, 3, (some .int), 12, kX11_reason) := ⟨xpn_11, xcB_ok (i := 785) (by decide +kernel), xchk_code (w := 11) (ini := false) rfl (by decide +kernel) qX11_reason⟩
theorem gX11_type : xGM (yX11_type, cX11_type, 5, (some .int), 12, kX11_type) := ⟨xpn_11, xcB_ok (i := 812) (by decide +kernel), xchk_code (w := 11) (ini := false) rfl (by decide +kernel) qX11_type⟩
theorem gX11_clear : xGM (yX11_clear, cX11_clear, 2, (some .int), 12, kX11_clear) := ⟨xpn_11, xcB_ok (i := 820) (by decide +kernel), xchk_code (w := 11) (ini := false) rfl (by decide +kernel) qX11_clear⟩
theorem gX11_read : xGM (yX11_read, cX11_read, 3, (some .int), 12, kX11_read) := ⟨xpn_11, xcB_ok (i := 824) (by decide +kernel), xchk_code (w := 11) (ini := false) rfl (by decide +kernel) qX11_read⟩
theorem gX11_value : xGM (yX11_value, cX11_value, 5, (some .int), 12, kX11_value) := ⟨xpn_11, xcB_ok (i := 863) (by decide +kernel), xchk_code (w := 11) (ini := false) rfl (by decide +kernel) qX11_value⟩
theorem gX11_against : xGM (yX11_against, cX11_against, 4, (some .int), 12, kX11_against) := ⟨xpn_11, xcB_ok (i := 882) (by decide +kernel), xchk_code (w := 11) (ini := false) rfl (by decide +kernel) qX11_against⟩
theorem gX11_carried : xGM (yX11_carried, cX11_carried, 4, (some .int), 12, kX11_carried) := ⟨xpn_11, xcB_ok (i := 891) (by decide +kernel), xchk_code (w := 11) (ini := false) rfl (by decide +kernel) qX11_carried⟩
theorem gX11_count : xGM (yX11_count, cX11_count, 2, (some .int), 12, kX11_count) := ⟨xpn_11, xcB_ok (i := 909) (by decide +kernel), xchk_code (w := 11) (ini := false) rfl (by decide +kernel) qX11_count⟩
theorem gX11_trace : xGM (yX11_trace, cX11_trace, 1, (some .long), 12, kX11_trace) := ⟨xpn_11, xcB_ok (i := 918) (by decide +kernel), xchk_code (w := 11) (ini := false) rfl (by decide +kernel) qX11_trace⟩
theorem gX11_isOther : xGM (yX11_isOther, cX11_isOther, 2, (some .boolean), 12, kX11_isOther) := ⟨xpn_11, xcB_ok (i := 521) (by decide +kernel), xchk_code (w := 11) (ini := false) rfl (by decide +kernel) qX11_isOther⟩
theorem gX11_isChoice : xGM (yX11_isChoice, cX11_isChoice, 1, (some .boolean), 0, kX11_isChoice) := ⟨xpn_11, xcB_ok (i := 532) (by decide +kernel), xchk_code (w := 11) (ini := false) rfl (by decide +kernel) qX11_isChoice⟩
theorem gX11_isWay : xGM (yX11_isWay, cX11_isWay, 1, (some .boolean), 0, kX11_isWay) := ⟨xpn_11, xcB_ok (i := 636) (by decide +kernel), xchk_code (w := 11) (ini := false) rfl (by decide +kernel) qX11_isWay⟩
theorem gX11_isTerm : xGM (yX11_isTerm, cX11_isTerm, 1, (some .boolean), 0, kX11_isTerm) := ⟨xpn_11, xcB_ok (i := 827) (by decide +kernel), xchk_code (w := 11) (ini := false) rfl (by decide +kernel) qX11_isTerm⟩
theorem gX11_startAnew : xGM (yX11_startAnew, cX11_startAnew, 2, none, 12, kX11_startAnew) := ⟨xpn_11, xcB_ok (i := 493) (by decide +kernel), xchk_code (w := 11) (ini := false) rfl (by decide +kernel) qX11_startAnew⟩
theorem gX11_forgetTable : xGM (yX11_forgetTable, cX11_forgetTable, 1, none, 12, kX11_forgetTable) := ⟨xpn_11, xcB_ok (i := 497) (by decide +kernel), xchk_code (w := 11) (ini := false) rfl (by decide +kernel) qX11_forgetTable⟩
theorem gX11_forgetNet : xGM (yX11_forgetNet, cX11_forgetNet, 1, none, 12, kX11_forgetNet) := ⟨xpn_11, xcB_ok (i := 501) (by decide +kernel), xchk_code (w := 11) (ini := false) rfl (by decide +kernel) qX11_forgetNet⟩
theorem gX11_lowest : xGM (yX11_lowest, cX11_lowest, 1, (some .int), 0, kX11_lowest) := ⟨xpn_11, xcB_ok (i := 141) (by decide +kernel), xchk_code (w := 11) (ini := false) rfl (by decide +kernel) qX11_lowest⟩
theorem gX11_hasEmpty : xGM (yX11_hasEmpty, cX11_hasEmpty, 4, (some .boolean), 0, kX11_hasEmpty) := ⟨xpn_11, xcB_ok (i := 648) (by decide +kernel), xchk_code (w := 11) (ini := false) rfl (by decide +kernel) qX11_hasEmpty⟩
theorem gX11_pairBit : xGM (yX11_pairBit, cX11_pairBit, 2, (some .long), 0, kX11_pairBit) := ⟨xpn_11, xcB_ok (i := 692) (by decide +kernel), xchk_code (w := 11) (ini := false) rfl (by decide +kernel) qX11_pairBit⟩
theorem gX12_init : xGM (yX12_init, cX12_init, 1, none, 13, kX12_init) := ⟨xpn_12, xcB_ok (i := 923) (by decide +kernel), xchk_code (w := 12) (ini := true) rfl (by decide +kernel) qX12_init⟩
theorem gX12_in : xGM (yX12_in, cX12_in, 3, (some .boolean), 0, kX12_in) := ⟨xpn_12, xcB_ok (i := 1042) (by decide +kernel), xchk_code (w := 12) (ini := false) rfl (by decide +kernel) qX12_in⟩
theorem gX12_all : xGM (yX12_all, cX12_all, 1, (some .int), 13, kX12_all) := ⟨xpn_12, xcB_ok (i := 936) (by decide +kernel), xchk_code (w := 12) (ini := false) rfl (by decide +kernel) qX12_all⟩
theorem gX12_isKind : xGM (yX12_isKind, cX12_isKind, 2, (some .boolean), 13, kX12_isKind) := ⟨xpn_12, xcB_ok (i := 1050) (by decide +kernel), xchk_code (w := 12) (ini := false) rfl (by decide +kernel) qX12_isKind⟩
theorem gX12_isSet : xGM (yX12_isSet, cX12_isSet, 2, (some .boolean), 13, kX12_isSet) := ⟨xpn_12, xcB_ok (i := 1070) (by decide +kernel), xchk_code (w := 12) (ini := false) rfl (by decide +kernel) qX12_isSet⟩
theorem gX12_isPoint : xGM (yX12_isPoint, cX12_isPoint, 2, (some .boolean), 13, kX12_isPoint) := ⟨xpn_12, xcB_ok (i := 1114) (by decide +kernel), xchk_code (w := 12) (ini := false) rfl (by decide +kernel) qX12_isPoint⟩
theorem gX12_mayBe : xGM (yX12_mayBe, cX12_mayBe, 4, (some .boolean), 13, kX12_mayBe) := ⟨xpn_12, xcB_ok (i := 1058) (by decide +kernel), xchk_code (w := 12) (ini := false) rfl (by decide +kernel) qX12_mayBe⟩
theorem gX12_opens : xGM (yX12_opens, cX12_opens, 4, none, 13, kX12_opens) := ⟨xpn_12, xcB_ok (i := 932) (by decide +kernel), xchk_code (w := 12) (ini := false) rfl (by decide +kernel) qX12_opens⟩
theorem gX12_frees : xGM (yX12_frees, cX12_frees, 3, none, 13, kX12_frees) := ⟨xpn_12, xcB_ok (i := 940) (by decide +kernel), xchk_code (w := 12) (ini := false) rfl (by decide +kernel) qX12_frees⟩
theorem gX12_empties : xGM (yX12_empties, cX12_empties, 2, none, 13, kX12_empties) := ⟨xpn_12, xcB_ok (i := 944) (by decide +kernel), xchk_code (w := 12) (ini := false) rfl (by decide +kernel) qX12_empties⟩
theorem gX12_begins : xGM (yX12_begins, cX12_begins, 3, none, 13, kX12_begins) := ⟨xpn_12, xcB_ok (i := 928) (by decide +kernel), xchk_code (w := 12) (ini := false) rfl (by decide +kernel) qX12_begins⟩
theorem gX12_kinds : xGM (yX12_kinds, cX12_kinds, 3, (some .int), 13, kX12_kinds) := ⟨xpn_12, xcB_ok (i := 1039) (by decide +kernel), xchk_code (w := 12) (ini := false) rfl (by decide +kernel) qX12_kinds⟩
theorem gX12_turn : xGM (yX12_turn, cX12_turn, 3, (some .int), 13, kX12_turn) := ⟨xpn_12, xcB_ok (i := 1046) (by decide +kernel), xchk_code (w := 12) (ini := false) rfl (by decide +kernel) qX12_turn⟩
theorem gX12_marks : xGM (yX12_marks, cX12_marks, 6, none, 13, kX12_marks) := ⟨xpn_12, xcB_ok (i := 1062) (by decide +kernel), xchk_code (w := 12) (ini := false) rfl (by decide +kernel) qX12_marks⟩
theorem gX12_triangle : xGM (yX12_triangle, cX12_triangle, 9, (some .int), 13, kX12_triangle) := ⟨xpn_12, xcB_ok (i := 1054) (by decide +kernel), xchk_code (w := 12) (ini := false) rfl (by decide +kernel) qX12_triangle⟩
theorem gX12_joinOf : xGM (yX12_joinOf, cX12_joinOf, 6, (some .int), 13, kX12_joinOf) := ⟨xpn_12, xcB_ok (i := 1074) (by decide +kernel), xchk_code (w := 12) (ini := false) rfl (by decide +kernel) qX12_joinOf⟩
theorem gX12_join : xGM (yX12_join, cX12_join, 3, (some .int), 13, kX12_join) := ⟨xpn_12, xcB_ok (i := 1066) (by decide +kernel), xchk_code (w := 12) (ini := false) rfl (by decide +kernel) qX12_join⟩
theorem gX12_turnedOf : xGM (yX12_turnedOf, cX12_turnedOf, 4, (some .int), 13, kX12_turnedOf) := ⟨xpn_12, xcB_ok (i := 1082) (by decide +kernel), xchk_code (w := 12) (ini := false) rfl (by decide +kernel) qX12_turnedOf⟩
theorem gX12_turned : xGM (yX12_turned, cX12_turned, 2, (some .int), 13, kX12_turned) := ⟨xpn_12, xcB_ok (i := 1078) (by decide +kernel), xchk_code (w := 12) (ini := false) rfl (by decide +kernel) qX12_turned⟩
theorem gX12_fault : xGM (yX12_fault, cX12_fault, 4, (some .int), 13, kX12_fault) := ⟨xpn_12, xcB_ok (i := 1086) (by decide +kernel), xchk_code (w := 12) (ini := false) rfl (by decide +kernel) qX12_fault⟩
theorem gX12_becomes : xGM (yX12_becomes, cX12_becomes, 3, (some .int), 13, kX12_becomes) := ⟨xpn_12, xcB_ok (i := 1094) (by decide +kernel), xchk_code (w := 12) (ini := false) rfl (by decide +kernel) qX12_becomes⟩
theorem gX12_fuse : xGM (yX12_fuse, cX12_fuse, 8, (some .int), 13, kX12_fuse) := ⟨xpn_12, xcB_ok (i := 1090) (by decide +kernel), xchk_code (w := 12) (ini := false) rfl (by decide +kernel) qX12_fuse⟩
theorem gX12_keep : xGM (yX12_keep, cX12_keep, 2, (some .int), 13, kX12_keep) := ⟨xpn_12, xcB_ok (i := 1098) (by decide +kernel), xchk_code (w := 12) (ini := false) rfl (by decide +kernel) qX12_keep⟩
theorem gX12_shelf : xGM (yX12_shelf, cX12_shelf, 9, (some .int), 13, kX12_shelf) := ⟨xpn_12, xcB_ok (i := 1102) (by decide +kernel), xchk_code (w := 12) (ini := false) rfl (by decide +kernel) qX12_shelf⟩
theorem gX12_points : xGM (yX12_points, cX12_points, 3, (some .int), 13, kX12_points) := ⟨xpn_12, xcB_ok (i := 1106) (by decide +kernel), xchk_code (w := 12) (ini := false) rfl (by decide +kernel) qX12_points⟩
theorem gX12_puts : xGM (yX12_puts, cX12_puts, 5, none, 13, kX12_puts) := ⟨xpn_12, xcB_ok (i := 1118) (by decide +kernel), xchk_code (w := 12) (ini := false) rfl (by decide +kernel) qX12_puts⟩
theorem gX12_tell : xGM (yX12_tell, cX12_tell, 5, (some .int), 13, kX12_tell) := ⟨xpn_12, xcB_ok (i := 1110) (by decide +kernel), xchk_code (w := 12) (ini := false) rfl (by decide +kernel) qX12_tell⟩
theorem gX12_copies : xGM (yX12_copies, cX12_copies, 4, none, 13, kX12_copies) := ⟨xpn_12, xcB_ok (i := 1130) (by decide +kernel), xchk_code (w := 12) (ini := false) rfl (by decide +kernel) qX12_copies⟩
theorem gX12_isEmpty : xGM (yX12_isEmpty, cX12_isEmpty, 5, (some .boolean), 13, kX12_isEmpty) := ⟨xpn_12, xcB_ok (i := 1138) (by decide +kernel), xchk_code (w := 12) (ini := false) rfl (by decide +kernel) qX12_isEmpty⟩
theorem gX12_once : xGM (yX12_once, cX12_once, 9, (some .boolean), 13, kX12_once) := ⟨xpn_12, xcB_ok (i := 1134) (by decide +kernel), xchk_code (w := 12) (ini := false) rfl (by decide +kernel) qX12_once⟩
theorem gX12_fully : xGM (yX12_fully, cX12_fully, 5, (some .long), 13, kX12_fully) := ⟨xpn_12, xcB_ok (i := 1142) (by decide +kernel), xchk_code (w := 12) (ini := false) rfl (by decide +kernel) qX12_fully⟩
theorem gX12_trying : xGM (yX12_trying, cX12_trying, 9, (some .long), 13, kX12_trying) := ⟨xpn_12, xcB_ok (i := 1147) (by decide +kernel), xchk_code (w := 12) (ini := false) rfl (by decide +kernel) qX12_trying⟩
theorem gX12_narrows : xGM (yX12_narrows, cX12_narrows, 2, (some .long), 13, kX12_narrows) := ⟨xpn_12, xcB_ok (i := 1126) (by decide +kernel), xchk_code (w := 12) (ini := false) rfl (by decide +kernel) qX12_narrows⟩
theorem gX12_narrow : xGM (yX12_narrow, cX12_narrow, 4, (some .int), 13, kX12_narrow) := ⟨xpn_12, xcB_ok (i := 1122) (by decide +kernel), xchk_code (w := 12) (ini := false) rfl (by decide +kernel) qX12_narrow⟩
theorem gX12_isVoid : xGM (yX12_isVoid, cX12_isVoid, 2, (some .int), 13, kX12_isVoid) := ⟨xpn_12, xcB_ok (i := 1152) (by decide +kernel), xchk_code (w := 12) (ini := false) rfl (by decide +kernel) qX12_isVoid⟩
theorem gX12_fills : xGM (yX12_fills, cX12_fills, 6, none, 13, kX12_fills) := ⟨xpn_12, xcB_ok (i := 1160) (by decide +kernel), xchk_code (w := 12) (ini := false) rfl (by decide +kernel) qX12_fills⟩
theorem gX12_takes : xGM (yX12_takes, cX12_takes, 6, none, 13, kX12_takes) := ⟨xpn_12, xcB_ok (i := 1164) (by decide +kernel), xchk_code (w := 12) (ini := false) rfl (by decide +kernel) qX12_takes⟩
theorem gX12_fillings : xGM (yX12_fillings, cX12_fillings, 2, (some .int), 13, kX12_fillings) := ⟨xpn_12, xcB_ok (i := 1156) (by decide +kernel), xchk_code (w := 12) (ini := false) rfl (by decide +kernel) qX12_fillings⟩
theorem gX12_first : xGM (yX12_first, cX12_first, 3, (some .int), 13, kX12_first) := ⟨xpn_12, xcB_ok (i := 1168) (by decide +kernel), xchk_code (w := 12) (ini := false) rfl (by decide +kernel) qX12_first⟩
theorem gX12_sure : xGM (yX12_sure, cX12_sure, 3, (some .int), 13, kX12_sure) := ⟨xpn_12, xcB_ok (i := 1172) (by decide +kernel), xchk_code (w := 12) (ini := false) rfl (by decide +kernel) qX12_sure⟩
theorem gX12_ones : xGM (yX12_ones, cX12_ones, 3, (some .int), 0, kX12_ones) := ⟨xpn_12, xcB_ok (i := 1183) (by decide +kernel), xchk_code (w := 12) (ini := false) rfl (by decide +kernel) qX12_ones⟩
theorem gX12_has : xGM (yX12_has, cX12_has, 7, (some .boolean), 13, kX12_has) := ⟨xpn_12, xcB_ok (i := 1180) (by decide +kernel), xchk_code (w := 12) (ini := false) rfl (by decide +kernel) qX12_has⟩
theorem gX12_reason : xGM (yX12_reason, cX12_reason, 5, (some .int), 13, kX12_reason) := ⟨xpn_12, xcB_ok (i := 1176) (by decide +kernel), xchk_code (w := 12) (ini := false) rfl (by decide +kernel) qX12_reason⟩
theorem gX12_type : xGM (yX12_type, cX12_type, 5, (some .int), 13, kX12_type) := ⟨xpn_12, xcB_ok (i := 1187) (by decide +kernel), xchk_code (w := 12) (ini := false) rfl (by decide +kernel) qX12_type⟩
theorem gX12_clear : xGM (yX12_clear, cX12_clear, 2, (some .int), 13, kX12_clear) := ⟨xpn_12, xcB_ok (i := 1192) (by decide +kernel), xchk_code (w := 12) (ini := false) rfl (by decide +kernel) qX12_clear⟩
theorem gX12_isLeaf : xGM (yX12_isLeaf, cX12_isLeaf, 2, (some .boolean), 13, kX12_isLeaf) := ⟨xpn_12, xcB_ok (i := 1207) (by decide +kernel), xchk_code (w := 12) (ini := false) rfl (by decide +kernel) qX12_isLeaf⟩
theorem gX12_close : xGM (yX12_close, cX12_close, 1, (some .int), 0, kX12_close) := ⟨xpn_12, xcB_ok (i := 1214) (by decide +kernel), xchk_code (w := 12) (ini := false) rfl (by decide +kernel) qX12_close⟩
theorem gX12_puts_ : xGM (yX12_puts_, cX12_puts_, 2, none, 13, kX12_puts_) := ⟨xpn_12, xcB_ok (i := 1211) (by decide +kernel), xchk_code (w := 12) (ini := false) rfl (by decide +kernel) qX12_puts_⟩
theorem gX12_reads : xGM (yX12_reads, cX12_reads, 8, (some .boolean), 13, kX12_reads) := ⟨xpn_12, xcB_ok (i := 1203) (by decide +kernel), xchk_code (w := 12) (ini := false) rfl (by decide +kernel) qX12_reads⟩
theorem gX12_isTerm : xGM (yX12_isTerm, cX12_isTerm, 1, (some .boolean), 0, kX12_isTerm) := ⟨xpn_12, xcB_ok (i := 1199) (by decide +kernel), xchk_code (w := 12) (ini := false) rfl (by decide +kernel) qX12_isTerm⟩
theorem gX12_read : xGM (yX12_read, cX12_read, 3, (some .int), 13, kX12_read) := ⟨xpn_12, xcB_ok (i := 1196) (by decide +kernel), xchk_code (w := 12) (ini := false) rfl (by decide +kernel) qX12_read⟩
theorem gX12_valueOf : xGM (yX12_valueOf, cX12_valueOf, 10, (some .int), 13, kX12_valueOf) := ⟨xpn_12, xcB_ok (i := 1222) (by decide +kernel), xchk_code (w := 12) (ini := false) rfl (by decide +kernel) qX12_valueOf⟩
theorem gX12_value : xGM (yX12_value, cX12_value, 5, (some .int), 13, kX12_value) := ⟨xpn_12, xcB_ok (i := 1218) (by decide +kernel), xchk_code (w := 12) (ini := false) rfl (by decide +kernel) qX12_value⟩
theorem gX12_standing : xGM (yX12_standing, cX12_standing, 5, (some .int), 13, kX12_standing) := ⟨xpn_12, xcB_ok (i := 1230) (by decide +kernel), xchk_code (w := 12) (ini := false) rfl (by decide +kernel) qX12_standing⟩
theorem gX12_against : xGM (yX12_against, cX12_against, 10, (some .int), 13, kX12_against) := ⟨xpn_12, xcB_ok (i := 1226) (by decide +kernel), xchk_code (w := 12) (ini := false) rfl (by decide +kernel) qX12_against⟩
theorem gX12_isWell : xGM (yX12_isWell, cX12_isWell, 5, (some .boolean), 13, kX12_isWell) := ⟨xpn_12, xcB_ok (i := 1242) (by decide +kernel), xchk_code (w := 12) (ini := false) rfl (by decide +kernel) qX12_isWell⟩
theorem gX12_isWhole : xGM (yX12_isWhole, cX12_isWhole, 10, (some .boolean), 13, kX12_isWhole) := ⟨xpn_12, xcB_ok (i := 1238) (by decide +kernel), xchk_code (w := 12) (ini := false) rfl (by decide +kernel) qX12_isWhole⟩
theorem gX12_carried : xGM (yX12_carried, cX12_carried, 9, (some .int), 13, kX12_carried) := ⟨xpn_12, xcB_ok (i := 1234) (by decide +kernel), xchk_code (w := 12) (ini := false) rfl (by decide +kernel) qX12_carried⟩
theorem gX12_count : xGM (yX12_count, cX12_count, 5, (some .int), 13, kX12_count) := ⟨xpn_12, xcB_ok (i := 1246) (by decide +kernel), xchk_code (w := 12) (ini := false) rfl (by decide +kernel) qX12_count⟩
theorem gX12_trace : xGM (yX12_trace, cX12_trace, 1, (some .long), 13, kX12_trace) := ⟨xpn_12, xcB_ok (i := 1250) (by decide +kernel), xchk_code (w := 12) (ini := false) rfl (by decide +kernel) qX12_trace⟩
theorem gJ6_bitCount_0f7a4 : xGM (yJ6_bitCount_0f7a4, cJ6_bitCount_0f7a4, 1, (some .int), 0, kJ6_bitCount_0f7a4) := ⟨xpn_13, xcB_ok (i := 144) (by decide +kernel), xchk_code (w := 14) (ini := false) rfl (by decide +kernel) qJ6_bitCount_0f7a4⟩
theorem gJ13_bitCount_95d88 : xGM (yJ13_bitCount_95d88, cJ13_bitCount_95d88, 2, (some .int), 0, kJ13_bitCount_95d88) := ⟨xpn_14, xcB_ok (i := 685) (by decide +kernel), xchk_code (w := 15) (ini := false) rfl (by decide +kernel) qJ13_bitCount_95d88⟩
theorem gJ7_fill_53178 : xGM (yJ7_fill_53178, cJ7_fill_53178, 4, none, 0, kJ7_fill_53178) := ⟨xpn_15, xcB_ok (i := 134) (by decide +kernel), xchk_code (w := 18) (ini := false) rfl (by decide +kernel) qJ7_fill_53178⟩
theorem xG0 : ∀ M ∈ xP0, xGM M := List.forall_mem_cons.mpr ⟨gX0_init, List.forall_mem_cons.mpr ⟨gX0_forget, List.forall_mem_cons.mpr ⟨gX0_rowsOf, List.forall_mem_cons.mpr ⟨gX0_wholesOf, List.forall_mem_cons.mpr ⟨gX0_restart, List.forall_mem_cons.mpr ⟨gX1_init, List.forall_mem_cons.mpr ⟨gX1_add, List.forall_mem_cons.mpr ⟨gX1_firstFault, List.forall_mem_cons.mpr ⟨gX1_standsAsFactor, List.forall_mem_cons.mpr ⟨gX1_standsAfter, List.forall_mem_cons.mpr ⟨gX1_waits, List.forall_mem_cons.mpr ⟨gX1_writeWaiting, List.forall_mem_cons.mpr ⟨gX1_write, List.forall_mem_cons.mpr ⟨gX1_strength, List.forall_mem_cons.mpr ⟨gX2_init, List.forall_mem_cons.mpr ⟨gX2_evaluate, List.forall_mem_cons.mpr ⟨gX2_combined, List.forall_mem_cons.mpr ⟨gX2_leaf, List.forall_mem_cons.mpr ⟨gX2_leastDifference, List.forall_mem_cons.mpr ⟨gX3_init, fun _ h => absurd h List.not_mem_nil⟩⟩⟩⟩⟩⟩⟩⟩⟩⟩⟩⟩⟩⟩⟩⟩⟩⟩⟩⟩
theorem xG1 : ∀ M ∈ xP1, xGM M := List.forall_mem_cons.mpr ⟨gX3_forget, List.forall_mem_cons.mpr ⟨gX3_howMany, List.forall_mem_cons.mpr ⟨gX3_areThere, List.forall_mem_cons.mpr ⟨gX3_findLeast, List.forall_mem_cons.mpr ⟨gX3_fixLeast, List.forall_mem_cons.mpr ⟨gX4_init, List.forall_mem_cons.mpr ⟨gX4_forget, List.forall_mem_cons.mpr ⟨gX4_costOf, List.forall_mem_cons.mpr ⟨gX4_cellsBy, List.forall_mem_cons.mpr ⟨gX4_once, List.forall_mem_cons.mpr ⟨gX4_full, List.forall_mem_cons.mpr ⟨gX4_differs, List.forall_mem_cons.mpr ⟨gX4_trying, List.forall_mem_cons.mpr ⟨gX4_someGo, List.forall_mem_cons.mpr ⟨gX4_stays, List.forall_mem_cons.mpr ⟨gX5_init, List.forall_mem_cons.mpr ⟨gX5_free, List.forall_mem_cons.mpr ⟨gX5_has, List.forall_mem_cons.mpr ⟨gX6_init, List.forall_mem_cons.mpr ⟨gX6_forget, fun _ h => absurd h List.not_mem_nil⟩⟩⟩⟩⟩⟩⟩⟩⟩⟩⟩⟩⟩⟩⟩⟩⟩⟩⟩⟩
theorem xG2 : ∀ M ∈ xP2, xGM M := List.forall_mem_cons.mpr ⟨gX6_listPairs, List.forall_mem_cons.mpr ⟨gX6_leastSet, List.forall_mem_cons.mpr ⟨gX6_isGranted, List.forall_mem_cons.mpr ⟨gX6_canBe, List.forall_mem_cons.mpr ⟨gX6_pairsAsTold, List.forall_mem_cons.mpr ⟨gX7_init, List.forall_mem_cons.mpr ⟨gX7_run, List.forall_mem_cons.mpr ⟨gX7_listBetween, List.forall_mem_cons.mpr ⟨gX7_pairsNotAll, List.forall_mem_cons.mpr ⟨gX7_goOn, List.forall_mem_cons.mpr ⟨gX7_narrowestOpen, List.forall_mem_cons.mpr ⟨gX7_pointsToTry, List.forall_mem_cons.mpr ⟨gX7_takeBox, List.forall_mem_cons.mpr ⟨gX7_takeLowest, List.forall_mem_cons.mpr ⟨gX7_isWhole, List.forall_mem_cons.mpr ⟨gX8_init, List.forall_mem_cons.mpr ⟨gX8_pass, List.forall_mem_cons.mpr ⟨gX8_settles, List.forall_mem_cons.mpr ⟨gX8_makeSingle, List.forall_mem_cons.mpr ⟨gX9_init, fun _ h => absurd h List.not_mem_nil⟩⟩⟩⟩⟩⟩⟩⟩⟩⟩⟩⟩⟩⟩⟩⟩⟩⟩⟩⟩
theorem xG3 : ∀ M ∈ xP3, xGM M := List.forall_mem_cons.mpr ⟨gX9_all, List.forall_mem_cons.mpr ⟨gX9_hasSet, List.forall_mem_cons.mpr ⟨gX9_restart, List.forall_mem_cons.mpr ⟨gX9_makeTurns, List.forall_mem_cons.mpr ⟨gX9_freeTriangles, List.forall_mem_cons.mpr ⟨gX9_mayBe, List.forall_mem_cons.mpr ⟨gX9_setTriangle, List.forall_mem_cons.mpr ⟨gX9_setOne, List.forall_mem_cons.mpr ⟨gX9_prepare, List.forall_mem_cons.mpr ⟨gX9_prepareHalves, List.forall_mem_cons.mpr ⟨gX9_turnSet, List.forall_mem_cons.mpr ⟨gX9_joinSets, List.forall_mem_cons.mpr ⟨gX9_firstFault, List.forall_mem_cons.mpr ⟨gX9_howManyTriangles, List.forall_mem_cons.mpr ⟨gX9_copyFrom, List.forall_mem_cons.mpr ⟨gX9_canFuse, List.forall_mem_cons.mpr ⟨gX9_becomeFused, List.forall_mem_cons.mpr ⟨gX9_renamed, List.forall_mem_cons.mpr ⟨gX9_becomeMadeOfTwo, List.forall_mem_cons.mpr ⟨gX9_paired, fun _ h => absurd h List.not_mem_nil⟩⟩⟩⟩⟩⟩⟩⟩⟩⟩⟩⟩⟩⟩⟩⟩⟩⟩⟩⟩
theorem xG4 : ∀ M ∈ xP4, xGM M := List.forall_mem_cons.mpr ⟨gX10_init, List.forall_mem_cons.mpr ⟨gX10_empty, List.forall_mem_cons.mpr ⟨gX10_takeFrom, List.forall_mem_cons.mpr ⟨gX11_init, List.forall_mem_cons.mpr ⟨gX11_kinds, List.forall_mem_cons.mpr ⟨gX11_turn, List.forall_mem_cons.mpr ⟨gX11_triangle, List.forall_mem_cons.mpr ⟨gX11_join, List.forall_mem_cons.mpr ⟨gX11_turned, List.forall_mem_cons.mpr ⟨gX11_fault, List.forall_mem_cons.mpr ⟨gX11_fuse, List.forall_mem_cons.mpr ⟨gX11_keep, List.forall_mem_cons.mpr ⟨gX11_shelf, List.forall_mem_cons.mpr ⟨gX11_points, List.forall_mem_cons.mpr ⟨gX11_tell, List.forall_mem_cons.mpr ⟨gX11_narrow, List.forall_mem_cons.mpr ⟨gX11_isVoid, List.forall_mem_cons.mpr ⟨gX11_fillings, List.forall_mem_cons.mpr ⟨gX11_first, List.forall_mem_cons.mpr ⟨gX11_sure, fun _ h => absurd h List.not_mem_nil⟩⟩⟩⟩⟩⟩⟩⟩⟩⟩⟩⟩⟩⟩⟩⟩⟩⟩⟩⟩
theorem xG5 : ∀ M ∈ xP5, xGM M := List.forall_mem_cons.mpr ⟨gX11_reason, List.forall_mem_cons.mpr ⟨gX11_type, List.forall_mem_cons.mpr ⟨gX11_clear, List.forall_mem_cons.mpr ⟨gX11_read, List.forall_mem_cons.mpr ⟨gX11_value, List.forall_mem_cons.mpr ⟨gX11_against, List.forall_mem_cons.mpr ⟨gX11_carried, List.forall_mem_cons.mpr ⟨gX11_count, List.forall_mem_cons.mpr ⟨gX11_trace, List.forall_mem_cons.mpr ⟨gX11_isOther, List.forall_mem_cons.mpr ⟨gX11_isChoice, List.forall_mem_cons.mpr ⟨gX11_isWay, List.forall_mem_cons.mpr ⟨gX11_isTerm, List.forall_mem_cons.mpr ⟨gX11_startAnew, List.forall_mem_cons.mpr ⟨gX11_forgetTable, List.forall_mem_cons.mpr ⟨gX11_forgetNet, List.forall_mem_cons.mpr ⟨gX11_lowest, List.forall_mem_cons.mpr ⟨gX11_hasEmpty, List.forall_mem_cons.mpr ⟨gX11_pairBit, List.forall_mem_cons.mpr ⟨gX12_init, fun _ h => absurd h List.not_mem_nil⟩⟩⟩⟩⟩⟩⟩⟩⟩⟩⟩⟩⟩⟩⟩⟩⟩⟩⟩⟩
theorem xG6 : ∀ M ∈ xP6, xGM M := List.forall_mem_cons.mpr ⟨gX12_in, List.forall_mem_cons.mpr ⟨gX12_all, List.forall_mem_cons.mpr ⟨gX12_isKind, List.forall_mem_cons.mpr ⟨gX12_isSet, List.forall_mem_cons.mpr ⟨gX12_isPoint, List.forall_mem_cons.mpr ⟨gX12_mayBe, List.forall_mem_cons.mpr ⟨gX12_opens, List.forall_mem_cons.mpr ⟨gX12_frees, List.forall_mem_cons.mpr ⟨gX12_empties, List.forall_mem_cons.mpr ⟨gX12_begins, List.forall_mem_cons.mpr ⟨gX12_kinds, List.forall_mem_cons.mpr ⟨gX12_turn, List.forall_mem_cons.mpr ⟨gX12_marks, List.forall_mem_cons.mpr ⟨gX12_triangle, List.forall_mem_cons.mpr ⟨gX12_joinOf, List.forall_mem_cons.mpr ⟨gX12_join, List.forall_mem_cons.mpr ⟨gX12_turnedOf, List.forall_mem_cons.mpr ⟨gX12_turned, List.forall_mem_cons.mpr ⟨gX12_fault, List.forall_mem_cons.mpr ⟨gX12_becomes, fun _ h => absurd h List.not_mem_nil⟩⟩⟩⟩⟩⟩⟩⟩⟩⟩⟩⟩⟩⟩⟩⟩⟩⟩⟩⟩
theorem xG7 : ∀ M ∈ xP7, xGM M := List.forall_mem_cons.mpr ⟨gX12_fuse, List.forall_mem_cons.mpr ⟨gX12_keep, List.forall_mem_cons.mpr ⟨gX12_shelf, List.forall_mem_cons.mpr ⟨gX12_points, List.forall_mem_cons.mpr ⟨gX12_puts, List.forall_mem_cons.mpr ⟨gX12_tell, List.forall_mem_cons.mpr ⟨gX12_copies, List.forall_mem_cons.mpr ⟨gX12_isEmpty, List.forall_mem_cons.mpr ⟨gX12_once, List.forall_mem_cons.mpr ⟨gX12_fully, List.forall_mem_cons.mpr ⟨gX12_trying, List.forall_mem_cons.mpr ⟨gX12_narrows, List.forall_mem_cons.mpr ⟨gX12_narrow, List.forall_mem_cons.mpr ⟨gX12_isVoid, List.forall_mem_cons.mpr ⟨gX12_fills, List.forall_mem_cons.mpr ⟨gX12_takes, List.forall_mem_cons.mpr ⟨gX12_fillings, List.forall_mem_cons.mpr ⟨gX12_first, List.forall_mem_cons.mpr ⟨gX12_sure, List.forall_mem_cons.mpr ⟨gX12_ones, fun _ h => absurd h List.not_mem_nil⟩⟩⟩⟩⟩⟩⟩⟩⟩⟩⟩⟩⟩⟩⟩⟩⟩⟩⟩⟩
theorem xG8 : ∀ M ∈ xP8, xGM M := List.forall_mem_cons.mpr ⟨gX12_has, List.forall_mem_cons.mpr ⟨gX12_reason, List.forall_mem_cons.mpr ⟨gX12_type, List.forall_mem_cons.mpr ⟨gX12_clear, List.forall_mem_cons.mpr ⟨gX12_isLeaf, List.forall_mem_cons.mpr ⟨gX12_close, List.forall_mem_cons.mpr ⟨gX12_puts_, List.forall_mem_cons.mpr ⟨gX12_reads, List.forall_mem_cons.mpr ⟨gX12_isTerm, List.forall_mem_cons.mpr ⟨gX12_read, List.forall_mem_cons.mpr ⟨gX12_valueOf, List.forall_mem_cons.mpr ⟨gX12_value, List.forall_mem_cons.mpr ⟨gX12_standing, List.forall_mem_cons.mpr ⟨gX12_against, List.forall_mem_cons.mpr ⟨gX12_isWell, List.forall_mem_cons.mpr ⟨gX12_isWhole, List.forall_mem_cons.mpr ⟨gX12_carried, List.forall_mem_cons.mpr ⟨gX12_count, List.forall_mem_cons.mpr ⟨gX12_trace, List.forall_mem_cons.mpr ⟨gJ6_bitCount_0f7a4, fun _ h => absurd h List.not_mem_nil⟩⟩⟩⟩⟩⟩⟩⟩⟩⟩⟩⟩⟩⟩⟩⟩⟩⟩⟩⟩
theorem xG9 : ∀ M ∈ xP9, xGM M := List.forall_mem_cons.mpr ⟨gJ13_bitCount_95d88, List.forall_mem_cons.mpr ⟨gJ7_fill_53178, fun _ h => absurd h List.not_mem_nil⟩⟩
theorem xP_ok : xProg xP := by
  intro k M hM
  have hm := List.mem_of_getElem? hM
  have h : ∀ M ∈ xP, xGM M := List.forall_mem_append.mpr ⟨xG0, List.forall_mem_append.mpr ⟨xG1, List.forall_mem_append.mpr ⟨xG2, List.forall_mem_append.mpr ⟨xG3, List.forall_mem_append.mpr ⟨xG4, List.forall_mem_append.mpr ⟨xG5, List.forall_mem_append.mpr ⟨xG6, List.forall_mem_append.mpr ⟨xG7, List.forall_mem_append.mpr ⟨xG8, xG9⟩⟩⟩⟩⟩⟩⟩⟩⟩
  exact h M hm
theorem xcls_ok : xCls := by
  intro ci q hq
  match ci, hq with
  | 0, hq => cases hq; exact ⟨by decide +kernel, by decide +kernel, by decide +kernel⟩
  | 1, hq => cases hq; exact ⟨by decide +kernel, by decide +kernel, by decide +kernel⟩
  | 2, hq => cases hq; exact ⟨by decide +kernel, by decide +kernel, by decide +kernel⟩
  | 3, hq => cases hq; exact ⟨by decide +kernel, by decide +kernel, by decide +kernel⟩
  | 4, hq => cases hq; exact ⟨by decide +kernel, by decide +kernel, by decide +kernel⟩
  | 5, hq => cases hq; exact ⟨by decide +kernel, by decide +kernel, by decide +kernel⟩
  | 6, hq => cases hq; exact ⟨by decide +kernel, by decide +kernel, by decide +kernel⟩
  | 7, hq => cases hq; exact ⟨by decide +kernel, by decide +kernel, by decide +kernel⟩
  | 8, hq => cases hq; exact ⟨by decide +kernel, by decide +kernel, by decide +kernel⟩
  | 9, hq => cases hq; exact ⟨by decide +kernel, by decide +kernel, by decide +kernel⟩
  | 10, hq => cases hq; exact ⟨by decide +kernel, by decide +kernel, by decide +kernel⟩
  | 11, hq => cases hq; exact ⟨by decide +kernel, by decide +kernel, by decide +kernel⟩
  | 12, hq => cases hq; exact ⟨by decide +kernel, by decide +kernel, by decide +kernel⟩
  | n + 13, hq => simp [vwCl] at hq
