/-! A RULE A BLOCK of each method, by wip/gen/rules.py -/
def arrSh (a n : Nat) : Prop := shT[a]? = some (.inr (0, n, [])) ∧ n ≤ 100000
def tabSh (t : Nat) : Prop := shT[t]? = some (.inl (9, [(0, 0), (2, t + 1), (2, t + 2), (2, t + 3), (2, t + 4), (2, t + 5)])) ∧ arrSh (t + 1) 8 ∧ arrSh (t + 2) 64 ∧ arrSh (t + 3) 256 ∧ arrSh (t + 4) 1024 ∧ arrSh (t + 5) 8
def termSh (t : Nat) : Prop := shT[t]? = some (.inl (10, [(2, t + 1), (0, 0), (0, 0)])) ∧ arrSh (t + 1) 60
theorem ytab_df {x lo : Int} {tg : List Nat} {df : Nat} (hx : -2147483648 ≤ x ∧ x < 2147483648) (h : x < lo ∨ lo + (tg.length : Int) ≤ x) : xtab (Int32.ofInt x) lo tg df = df := by
  unfold xtab
  rw [Int32.toInt_ofInt_of_le hx.1 hx.2]
  by_cases h1 : x < lo
  · rw [if_pos h1]
  · rw [if_neg h1, List.getElem?_eq_none (by omega)]
    rfl
theorem yrefs : (∀ n, n < 29 → xFr 23 n = some (24 + n)) ∧ (∀ n, n < 3 → xFr 57 n = some (58 + n)) ∧ (∀ n, n < 4 → xFr 83 n = some (84 + 2 * n)) := by
  have h := xini
  unfold xini_ok at h
  simp only [Bool.and_eq_true, List.all_eq_true, List.mem_range, beq_iff_eq] at h
  exact ⟨h.1.1.2, h.1.2, h.2⟩
theorem yref23 {j : Int} (h : 0 ≤ j ∧ j < 29) : xFr 23 j.toNat = some (24 + j.toNat) := yrefs.1 _ (by omega)
theorem yref57 {j : Int} (h : 0 ≤ j ∧ j < 3) : xFr 57 j.toNat = some (58 + j.toNat) := yrefs.2.1 _ (by omega)
theorem yref83 {j : Int} (h : 0 ≤ j ∧ j < 4) : xFr 83 j.toNat = some (84 + 2 * j.toNat) := yrefs.2.2 _ (by omega)
theorem arrSh_lev : ∀ n : Nat, n < 29 → arrSh (24 + n) 64 := by
  intro n hn
  refine ⟨?_, by omega⟩
  match n, hn with
  | 0, _ => exact sh24
  | 1, _ => exact sh25
  | 2, _ => exact sh26
  | 3, _ => exact sh27
  | 4, _ => exact sh28
  | 5, _ => exact sh29
  | 6, _ => exact sh30
  | 7, _ => exact sh31
  | 8, _ => exact sh32
  | 9, _ => exact sh33
  | 10, _ => exact sh34
  | 11, _ => exact sh35
  | 12, _ => exact sh36
  | 13, _ => exact sh37
  | 14, _ => exact sh38
  | 15, _ => exact sh39
  | 16, _ => exact sh40
  | 17, _ => exact sh41
  | 18, _ => exact sh42
  | 19, _ => exact sh43
  | 20, _ => exact sh44
  | 21, _ => exact sh45
  | 22, _ => exact sh46
  | 23, _ => exact sh47
  | 24, _ => exact sh48
  | 25, _ => exact sh49
  | 26, _ => exact sh50
  | 27, _ => exact sh51
  | 28, _ => exact sh52
  | m + 29, h => exact absurd h (by omega)
theorem yarr23 {j : Int} (h : 0 ≤ j ∧ j < 29) : arrSh (24 + j.toNat) 64 := arrSh_lev _ (by omega)
theorem arrSh_way : ∀ n : Nat, n < 3 → arrSh (58 + n) 64 := by
  intro n hn
  refine ⟨?_, by omega⟩
  match n, hn with
  | 0, _ => exact sh58
  | 1, _ => exact sh59
  | 2, _ => exact sh60
  | m + 3, h => exact absurd h (by omega)
theorem yarr57 {j : Int} (h : 0 ≤ j ∧ j < 3) : arrSh (58 + j.toNat) 64 := arrSh_way _ (by omega)
theorem termSh_at : ∀ n : Nat, n < 4 → termSh (84 + 2 * n) := by
  intro n hn
  match n, hn with
  | 0, _ => exact ⟨sh84, sh85, by omega⟩
  | 1, _ => exact ⟨sh86, sh87, by omega⟩
  | 2, _ => exact ⟨sh88, sh89, by omega⟩
  | 3, _ => exact ⟨sh90, sh91, by omega⟩
  | m + 4, h => exact absurd h (by omega)
theorem yterm83 {j : Int} (h : 0 ≤ j ∧ j < 4) : termSh (84 + 2 * j.toNat) := termSh_at _ (by omega)
theorem tabSh1 : tabSh 1 := ⟨sh1, ⟨sh2, by omega⟩, ⟨sh3, by omega⟩, ⟨sh4, by omega⟩, ⟨sh5, by omega⟩, ⟨sh6, by omega⟩⟩
theorem tabSh7 : tabSh 7 := ⟨sh7, ⟨sh8, by omega⟩, ⟨sh9, by omega⟩, ⟨sh10, by omega⟩, ⟨sh11, by omega⟩, ⟨sh12, by omega⟩⟩
theorem tabSh13 : tabSh 13 := ⟨sh13, ⟨sh14, by omega⟩, ⟨sh15, by omega⟩, ⟨sh16, by omega⟩, ⟨sh17, by omega⟩, ⟨sh18, by omega⟩⟩
