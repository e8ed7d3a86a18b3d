/-! THE LAW'S WALK, case by case (by wip/gen/lawwalk.py) -/
section LWK
variable {b N : Nat} {xs : Nat → Int32} {d : Nat} {Q : Int → xH → Prop}
theorem lw_c0 {i : Int} {hh : xH} (hi : 0 ≤ i ∧ i + 5 ≤ N) (hN : N ≤ 100000) (k : RCi d 84 [.inr (.inr 0), .inl ((xs (i + 1).toNat).toInt)] hh (fun v h1 => RCi d 130 [.inr (.inr 92), .inl ((xs (i + 1).toNat).toInt)] h1 (fun w h2 => True ∧ LR b N xs kL_law (d + 1) Q 18 [some (.inr (.inr 500)), some (.inr (.inr 0)), some (.inr (.inr 92)), some (.inl (i + 5))] [] h2))) : LR b N xs kL_law (d + 1) Q 148 [some (.inr (.inr 500)), some (.inr (.inr 0)), some (.inr (.inr 92)), some (.inl i)] [] hh := by
  refine r_aload_n rfl rfl ?_
  refine r_aload_n rfl rfl ?_
  refine r_iload_n rfl rfl ?_
  refine r_iconst 1 rfl (by decide) ?_
  refine r_iadd rfl ?_
  refine r_iaload rfl (by omega) hN ?_
  refine r_calli (args := [.inr (.inr 0), .inl ((xs (i + 1).toNat).toInt)]) (S' := []) rfl rfl rfl ?_
  refine RC.weak k (fun r h1 q => ?_)
  obtain ⟨v, rfl, k⟩ := q
  refine ⟨v, rfl, ?_⟩
  refine r_popi rfl ?_
  refine r_aload_n rfl rfl ?_
  refine r_aload_n rfl rfl ?_
  refine r_iload_n rfl rfl ?_
  refine r_iconst 1 rfl (by decide) ?_
  refine r_iadd rfl ?_
  refine r_iaload rfl (by omega) hN ?_
  refine r_calli (args := [.inr (.inr 92), .inl ((xs (i + 1).toNat).toInt)]) (S' := []) rfl rfl rfl ?_
  refine RC.weak k (fun r h2 q => ?_)
  obtain ⟨w, rfl, k⟩ := q
  refine ⟨w, rfl, ?_⟩
  obtain ⟨kq, k⟩ := k
  refine r_popi rfl ?_
  refine r_goto rfl ?_
  refine r_iinc 5 rfl (by decide) (fun u q => by cases q) ?_
  refine r_goto rfl ?_
  exact k
theorem lw_c1 {i : Int} {hh : xH} (hi : 0 ≤ i ∧ i + 5 ≤ N) (hN : N ≤ 100000) (k : RCi d 85 [.inr (.inr 0), .inl ((xs (i + 1).toNat).toInt), .inl ((xs (i + 2).toNat).toInt)] hh (fun v h1 => RCi d 131 [.inr (.inr 92), .inl ((xs (i + 1).toNat).toInt), .inl ((xs (i + 2).toNat).toInt)] h1 (fun w h2 => True ∧ LR b N xs kL_law (d + 1) Q 18 [some (.inr (.inr 500)), some (.inr (.inr 0)), some (.inr (.inr 92)), some (.inl (i + 5))] [] h2))) : LR b N xs kL_law (d + 1) Q 171 [some (.inr (.inr 500)), some (.inr (.inr 0)), some (.inr (.inr 92)), some (.inl i)] [] hh := by
  refine r_aload_n rfl rfl ?_
  refine r_aload_n rfl rfl ?_
  refine r_iload_n rfl rfl ?_
  refine r_iconst 1 rfl (by decide) ?_
  refine r_iadd rfl ?_
  refine r_iaload rfl (by omega) hN ?_
  refine r_aload_n rfl rfl ?_
  refine r_iload_n rfl rfl ?_
  refine r_iconst 2 rfl (by decide) ?_
  refine r_iadd rfl ?_
  refine r_iaload rfl (by omega) hN ?_
  refine r_calli (args := [.inr (.inr 0), .inl ((xs (i + 1).toNat).toInt), .inl ((xs (i + 2).toNat).toInt)]) (S' := []) rfl rfl rfl ?_
  refine RC.weak k (fun r h1 q => ?_)
  obtain ⟨v, rfl, k⟩ := q
  refine ⟨v, rfl, ?_⟩
  refine r_popi rfl ?_
  refine r_aload_n rfl rfl ?_
  refine r_aload_n rfl rfl ?_
  refine r_iload_n rfl rfl ?_
  refine r_iconst 1 rfl (by decide) ?_
  refine r_iadd rfl ?_
  refine r_iaload rfl (by omega) hN ?_
  refine r_aload_n rfl rfl ?_
  refine r_iload_n rfl rfl ?_
  refine r_iconst 2 rfl (by decide) ?_
  refine r_iadd rfl ?_
  refine r_iaload rfl (by omega) hN ?_
  refine r_calli (args := [.inr (.inr 92), .inl ((xs (i + 1).toNat).toInt), .inl ((xs (i + 2).toNat).toInt)]) (S' := []) rfl rfl rfl ?_
  refine RC.weak k (fun r h2 q => ?_)
  obtain ⟨w, rfl, k⟩ := q
  refine ⟨w, rfl, ?_⟩
  obtain ⟨kq, k⟩ := k
  refine r_popi rfl ?_
  refine r_goto rfl ?_
  refine r_iinc 5 rfl (by decide) (fun u q => by cases q) ?_
  refine r_goto rfl ?_
  exact k
theorem lw_c2 {i : Int} {hh : xH} (hi : 0 ≤ i ∧ i + 5 ≤ N) (hN : N ≤ 100000) (k : RCi d 86 [.inr (.inr 0), .inl ((xs (i + 1).toNat).toInt), .inl ((xs (i + 2).toNat).toInt), .inl ((xs (i + 3).toNat).toInt), .inl ((xs (i + 4).toNat).toInt)] hh (fun v h1 => RCi d 133 [.inr (.inr 92), .inl ((xs (i + 1).toNat).toInt), .inl ((xs (i + 2).toNat).toInt), .inl ((xs (i + 3).toNat).toInt), .inl ((xs (i + 4).toNat).toInt)] h1 (fun w h2 => True ∧ LR b N xs kL_law (d + 1) Q 18 [some (.inr (.inr 500)), some (.inr (.inr 0)), some (.inr (.inr 92)), some (.inl (i + 5))] [] h2))) : LR b N xs kL_law (d + 1) Q 204 [some (.inr (.inr 500)), some (.inr (.inr 0)), some (.inr (.inr 92)), some (.inl i)] [] hh := by
  refine r_aload_n rfl rfl ?_
  refine r_aload_n rfl rfl ?_
  refine r_iload_n rfl rfl ?_
  refine r_iconst 1 rfl (by decide) ?_
  refine r_iadd rfl ?_
  refine r_iaload rfl (by omega) hN ?_
  refine r_aload_n rfl rfl ?_
  refine r_iload_n rfl rfl ?_
  refine r_iconst 2 rfl (by decide) ?_
  refine r_iadd rfl ?_
  refine r_iaload rfl (by omega) hN ?_
  refine r_aload_n rfl rfl ?_
  refine r_iload_n rfl rfl ?_
  refine r_iconst 3 rfl (by decide) ?_
  refine r_iadd rfl ?_
  refine r_iaload rfl (by omega) hN ?_
  refine r_aload_n rfl rfl ?_
  refine r_iload_n rfl rfl ?_
  refine r_iconst 4 rfl (by decide) ?_
  refine r_iadd rfl ?_
  refine r_iaload rfl (by omega) hN ?_
  refine r_calli (args := [.inr (.inr 0), .inl ((xs (i + 1).toNat).toInt), .inl ((xs (i + 2).toNat).toInt), .inl ((xs (i + 3).toNat).toInt), .inl ((xs (i + 4).toNat).toInt)]) (S' := []) rfl rfl rfl ?_
  refine RC.weak k (fun r h1 q => ?_)
  obtain ⟨v, rfl, k⟩ := q
  refine ⟨v, rfl, ?_⟩
  refine r_popi rfl ?_
  refine r_aload_n rfl rfl ?_
  refine r_aload_n rfl rfl ?_
  refine r_iload_n rfl rfl ?_
  refine r_iconst 1 rfl (by decide) ?_
  refine r_iadd rfl ?_
  refine r_iaload rfl (by omega) hN ?_
  refine r_aload_n rfl rfl ?_
  refine r_iload_n rfl rfl ?_
  refine r_iconst 2 rfl (by decide) ?_
  refine r_iadd rfl ?_
  refine r_iaload rfl (by omega) hN ?_
  refine r_aload_n rfl rfl ?_
  refine r_iload_n rfl rfl ?_
  refine r_iconst 3 rfl (by decide) ?_
  refine r_iadd rfl ?_
  refine r_iaload rfl (by omega) hN ?_
  refine r_aload_n rfl rfl ?_
  refine r_iload_n rfl rfl ?_
  refine r_iconst 4 rfl (by decide) ?_
  refine r_iadd rfl ?_
  refine r_iaload rfl (by omega) hN ?_
  refine r_calli (args := [.inr (.inr 92), .inl ((xs (i + 1).toNat).toInt), .inl ((xs (i + 2).toNat).toInt), .inl ((xs (i + 3).toNat).toInt), .inl ((xs (i + 4).toNat).toInt)]) (S' := []) rfl rfl rfl ?_
  refine RC.weak k (fun r h2 q => ?_)
  obtain ⟨w, rfl, k⟩ := q
  refine ⟨w, rfl, ?_⟩
  obtain ⟨kq, k⟩ := k
  refine r_popi rfl ?_
  refine r_goto rfl ?_
  refine r_iinc 5 rfl (by decide) (fun u q => by cases q) ?_
  refine r_goto rfl ?_
  exact k
theorem lw_c3 {i : Int} {hh : xH} (hi : 0 ≤ i ∧ i + 5 ≤ N) (hN : N ≤ 100000) (k : RCi d 87 [.inr (.inr 0), .inl ((xs (i + 1).toNat).toInt), .inl ((xs (i + 2).toNat).toInt)] hh (fun v h1 => RCi d 135 [.inr (.inr 92), .inl ((xs (i + 1).toNat).toInt), .inl ((xs (i + 2).toNat).toInt)] h1 (fun w h2 => True ∧ LR b N xs kL_law (d + 1) Q 18 [some (.inr (.inr 500)), some (.inr (.inr 0)), some (.inr (.inr 92)), some (.inl (i + 5))] [] h2))) : LR b N xs kL_law (d + 1) Q 257 [some (.inr (.inr 500)), some (.inr (.inr 0)), some (.inr (.inr 92)), some (.inl i)] [] hh := by
  refine r_aload_n rfl rfl ?_
  refine r_aload_n rfl rfl ?_
  refine r_iload_n rfl rfl ?_
  refine r_iconst 1 rfl (by decide) ?_
  refine r_iadd rfl ?_
  refine r_iaload rfl (by omega) hN ?_
  refine r_aload_n rfl rfl ?_
  refine r_iload_n rfl rfl ?_
  refine r_iconst 2 rfl (by decide) ?_
  refine r_iadd rfl ?_
  refine r_iaload rfl (by omega) hN ?_
  refine r_calli (args := [.inr (.inr 0), .inl ((xs (i + 1).toNat).toInt), .inl ((xs (i + 2).toNat).toInt)]) (S' := []) rfl rfl rfl ?_
  refine RC.weak k (fun r h1 q => ?_)
  obtain ⟨v, rfl, k⟩ := q
  refine ⟨v, rfl, ?_⟩
  refine r_popi rfl ?_
  refine r_aload_n rfl rfl ?_
  refine r_aload_n rfl rfl ?_
  refine r_iload_n rfl rfl ?_
  refine r_iconst 1 rfl (by decide) ?_
  refine r_iadd rfl ?_
  refine r_iaload rfl (by omega) hN ?_
  refine r_aload_n rfl rfl ?_
  refine r_iload_n rfl rfl ?_
  refine r_iconst 2 rfl (by decide) ?_
  refine r_iadd rfl ?_
  refine r_iaload rfl (by omega) hN ?_
  refine r_calli (args := [.inr (.inr 92), .inl ((xs (i + 1).toNat).toInt), .inl ((xs (i + 2).toNat).toInt)]) (S' := []) rfl rfl rfl ?_
  refine RC.weak k (fun r h2 q => ?_)
  obtain ⟨w, rfl, k⟩ := q
  refine ⟨w, rfl, ?_⟩
  obtain ⟨kq, k⟩ := k
  refine r_popi rfl ?_
  refine r_goto rfl ?_
  refine r_iinc 5 rfl (by decide) (fun u q => by cases q) ?_
  refine r_goto rfl ?_
  exact k
theorem lw_c4 {i : Int} {hh : xH} (hi : 0 ≤ i ∧ i + 5 ≤ N) (hN : N ≤ 100000) (k : RCi d 88 [.inr (.inr 0), .inl ((xs (i + 1).toNat).toInt)] hh (fun v h1 => RCi d 137 [.inr (.inr 92), .inl ((xs (i + 1).toNat).toInt)] h1 (fun w h2 => True ∧ LR b N xs kL_law (d + 1) Q 18 [some (.inr (.inr 500)), some (.inr (.inr 0)), some (.inr (.inr 92)), some (.inl (i + 5))] [] h2))) : LR b N xs kL_law (d + 1) Q 290 [some (.inr (.inr 500)), some (.inr (.inr 0)), some (.inr (.inr 92)), some (.inl i)] [] hh := by
  refine r_aload_n rfl rfl ?_
  refine r_aload_n rfl rfl ?_
  refine r_iload_n rfl rfl ?_
  refine r_iconst 1 rfl (by decide) ?_
  refine r_iadd rfl ?_
  refine r_iaload rfl (by omega) hN ?_
  refine r_calli (args := [.inr (.inr 0), .inl ((xs (i + 1).toNat).toInt)]) (S' := []) rfl rfl rfl ?_
  refine RC.weak k (fun r h1 q => ?_)
  obtain ⟨v, rfl, k⟩ := q
  refine ⟨v, rfl, ?_⟩
  refine r_popi rfl ?_
  refine r_aload_n rfl rfl ?_
  refine r_aload_n rfl rfl ?_
  refine r_iload_n rfl rfl ?_
  refine r_iconst 1 rfl (by decide) ?_
  refine r_iadd rfl ?_
  refine r_iaload rfl (by omega) hN ?_
  refine r_calli (args := [.inr (.inr 92), .inl ((xs (i + 1).toNat).toInt)]) (S' := []) rfl rfl rfl ?_
  refine RC.weak k (fun r h2 q => ?_)
  obtain ⟨w, rfl, k⟩ := q
  refine ⟨w, rfl, ?_⟩
  obtain ⟨kq, k⟩ := k
  refine r_popi rfl ?_
  refine r_goto rfl ?_
  refine r_iinc 5 rfl (by decide) (fun u q => by cases q) ?_
  refine r_goto rfl ?_
  exact k
theorem lw_c5 {i : Int} {hh : xH} (hi : 0 ≤ i ∧ i + 5 ≤ N) (hN : N ≤ 100000) (k : RCi d 89 [.inr (.inr 0)] hh (fun v h1 => RCi d 138 [.inr (.inr 92)] h1 (fun w h2 => True ∧ LR b N xs kL_law (d + 1) Q 18 [some (.inr (.inr 500)), some (.inr (.inr 0)), some (.inr (.inr 92)), some (.inl (i + 5))] [] h2))) : LR b N xs kL_law (d + 1) Q 313 [some (.inr (.inr 500)), some (.inr (.inr 0)), some (.inr (.inr 92)), some (.inl i)] [] hh := by
  refine r_aload_n rfl rfl ?_
  refine r_calli (args := [.inr (.inr 0)]) (S' := []) rfl rfl rfl ?_
  refine RC.weak k (fun r h1 q => ?_)
  obtain ⟨v, rfl, k⟩ := q
  refine ⟨v, rfl, ?_⟩
  refine r_popi rfl ?_
  refine r_aload_n rfl rfl ?_
  refine r_calli (args := [.inr (.inr 92)]) (S' := []) rfl rfl rfl ?_
  refine RC.weak k (fun r h2 q => ?_)
  obtain ⟨w, rfl, k⟩ := q
  refine ⟨w, rfl, ?_⟩
  obtain ⟨kq, k⟩ := k
  refine r_popi rfl ?_
  refine r_goto rfl ?_
  refine r_iinc 5 rfl (by decide) (fun u q => by cases q) ?_
  refine r_goto rfl ?_
  exact k
theorem lw_c6 {i : Int} {hh : xH} (hi : 0 ≤ i ∧ i + 5 ≤ N) (hN : N ≤ 100000) (k : RCi d 90 [.inr (.inr 0), .inl ((xs (i + 1).toNat).toInt), .inl ((xs (i + 2).toNat).toInt)] hh (fun v h1 => RCi d 140 [.inr (.inr 92), .inl ((xs (i + 1).toNat).toInt), .inl ((xs (i + 2).toNat).toInt)] h1 (fun w h2 => True ∧ LR b N xs kL_law (d + 1) Q 18 [some (.inr (.inr 500)), some (.inr (.inr 0)), some (.inr (.inr 92)), some (.inl (i + 5))] [] h2))) : LR b N xs kL_law (d + 1) Q 326 [some (.inr (.inr 500)), some (.inr (.inr 0)), some (.inr (.inr 92)), some (.inl i)] [] hh := by
  refine r_aload_n rfl rfl ?_
  refine r_aload_n rfl rfl ?_
  refine r_iload_n rfl rfl ?_
  refine r_iconst 1 rfl (by decide) ?_
  refine r_iadd rfl ?_
  refine r_iaload rfl (by omega) hN ?_
  refine r_aload_n rfl rfl ?_
  refine r_iload_n rfl rfl ?_
  refine r_iconst 2 rfl (by decide) ?_
  refine r_iadd rfl ?_
  refine r_iaload rfl (by omega) hN ?_
  refine r_calli (args := [.inr (.inr 0), .inl ((xs (i + 1).toNat).toInt), .inl ((xs (i + 2).toNat).toInt)]) (S' := []) rfl rfl rfl ?_
  refine RC.weak k (fun r h1 q => ?_)
  obtain ⟨v, rfl, k⟩ := q
  refine ⟨v, rfl, ?_⟩
  refine r_popi rfl ?_
  refine r_aload_n rfl rfl ?_
  refine r_aload_n rfl rfl ?_
  refine r_iload_n rfl rfl ?_
  refine r_iconst 1 rfl (by decide) ?_
  refine r_iadd rfl ?_
  refine r_iaload rfl (by omega) hN ?_
  refine r_aload_n rfl rfl ?_
  refine r_iload_n rfl rfl ?_
  refine r_iconst 2 rfl (by decide) ?_
  refine r_iadd rfl ?_
  refine r_iaload rfl (by omega) hN ?_
  refine r_calli (args := [.inr (.inr 92), .inl ((xs (i + 1).toNat).toInt), .inl ((xs (i + 2).toNat).toInt)]) (S' := []) rfl rfl rfl ?_
  refine RC.weak k (fun r h2 q => ?_)
  obtain ⟨w, rfl, k⟩ := q
  refine ⟨w, rfl, ?_⟩
  obtain ⟨kq, k⟩ := k
  refine r_popi rfl ?_
  refine r_goto rfl ?_
  refine r_iinc 5 rfl (by decide) (fun u q => by cases q) ?_
  refine r_goto rfl ?_
  exact k
theorem lw_c7 {i : Int} {hh : xH} (hi : 0 ≤ i ∧ i + 5 ≤ N) (hN : N ≤ 100000) (k : RCi d 91 [.inr (.inr 0)] hh (fun v h1 => RCi d 141 [.inr (.inr 92)] h1 (fun w h2 => True ∧ LR b N xs kL_law (d + 1) Q 18 [some (.inr (.inr 500)), some (.inr (.inr 0)), some (.inr (.inr 92)), some (.inl (i + 5))] [] h2))) : LR b N xs kL_law (d + 1) Q 359 [some (.inr (.inr 500)), some (.inr (.inr 0)), some (.inr (.inr 92)), some (.inl i)] [] hh := by
  refine r_aload_n rfl rfl ?_
  refine r_calli (args := [.inr (.inr 0)]) (S' := []) rfl rfl rfl ?_
  refine RC.weak k (fun r h1 q => ?_)
  obtain ⟨v, rfl, k⟩ := q
  refine ⟨v, rfl, ?_⟩
  refine r_popi rfl ?_
  refine r_aload_n rfl rfl ?_
  refine r_calli (args := [.inr (.inr 92)]) (S' := []) rfl rfl rfl ?_
  refine RC.weak k (fun r h2 q => ?_)
  obtain ⟨w, rfl, k⟩ := q
  refine ⟨w, rfl, ?_⟩
  obtain ⟨kq, k⟩ := k
  refine r_popi rfl ?_
  refine r_goto rfl ?_
  refine r_iinc 5 rfl (by decide) (fun u q => by cases q) ?_
  refine r_goto rfl ?_
  exact k
theorem lw_c8 {i : Int} {hh : xH} (hi : 0 ≤ i ∧ i + 5 ≤ N) (hN : N ≤ 100000) (k : RCi d 92 [.inr (.inr 0), .inl ((xs (i + 1).toNat).toInt)] hh (fun v h1 => RCi d 142 [.inr (.inr 92), .inl ((xs (i + 1).toNat).toInt)] h1 (fun w h2 => True ∧ LR b N xs kL_law (d + 1) Q 18 [some (.inr (.inr 500)), some (.inr (.inr 0)), some (.inr (.inr 92)), some (.inl (i + 5))] [] h2))) : LR b N xs kL_law (d + 1) Q 372 [some (.inr (.inr 500)), some (.inr (.inr 0)), some (.inr (.inr 92)), some (.inl i)] [] hh := by
  refine r_aload_n rfl rfl ?_
  refine r_aload_n rfl rfl ?_
  refine r_iload_n rfl rfl ?_
  refine r_iconst 1 rfl (by decide) ?_
  refine r_iadd rfl ?_
  refine r_iaload rfl (by omega) hN ?_
  refine r_calli (args := [.inr (.inr 0), .inl ((xs (i + 1).toNat).toInt)]) (S' := []) rfl rfl rfl ?_
  refine RC.weak k (fun r h1 q => ?_)
  obtain ⟨v, rfl, k⟩ := q
  refine ⟨v, rfl, ?_⟩
  refine r_popi rfl ?_
  refine r_aload_n rfl rfl ?_
  refine r_aload_n rfl rfl ?_
  refine r_iload_n rfl rfl ?_
  refine r_iconst 1 rfl (by decide) ?_
  refine r_iadd rfl ?_
  refine r_iaload rfl (by omega) hN ?_
  refine r_calli (args := [.inr (.inr 92), .inl ((xs (i + 1).toNat).toInt)]) (S' := []) rfl rfl rfl ?_
  refine RC.weak k (fun r h2 q => ?_)
  obtain ⟨w, rfl, k⟩ := q
  refine ⟨w, rfl, ?_⟩
  obtain ⟨kq, k⟩ := k
  refine r_popi rfl ?_
  refine r_goto rfl ?_
  refine r_iinc 5 rfl (by decide) (fun u q => by cases q) ?_
  refine r_goto rfl ?_
  exact k
theorem lw_c9 {i : Int} {hh : xH} (hi : 0 ≤ i ∧ i + 5 ≤ N) (hN : N ≤ 100000) (k : RCi d 93 [.inr (.inr 0), .inl ((xs (i + 1).toNat).toInt)] hh (fun v h1 => RCi d 143 [.inr (.inr 92), .inl ((xs (i + 1).toNat).toInt)] h1 (fun w h2 => True ∧ LR b N xs kL_law (d + 1) Q 18 [some (.inr (.inr 500)), some (.inr (.inr 0)), some (.inr (.inr 92)), some (.inl (i + 5))] [] h2))) : LR b N xs kL_law (d + 1) Q 395 [some (.inr (.inr 500)), some (.inr (.inr 0)), some (.inr (.inr 92)), some (.inl i)] [] hh := by
  refine r_aload_n rfl rfl ?_
  refine r_aload_n rfl rfl ?_
  refine r_iload_n rfl rfl ?_
  refine r_iconst 1 rfl (by decide) ?_
  refine r_iadd rfl ?_
  refine r_iaload rfl (by omega) hN ?_
  refine r_calli (args := [.inr (.inr 0), .inl ((xs (i + 1).toNat).toInt)]) (S' := []) rfl rfl rfl ?_
  refine RC.weak k (fun r h1 q => ?_)
  obtain ⟨v, rfl, k⟩ := q
  refine ⟨v, rfl, ?_⟩
  refine r_popi rfl ?_
  refine r_aload_n rfl rfl ?_
  refine r_aload_n rfl rfl ?_
  refine r_iload_n rfl rfl ?_
  refine r_iconst 1 rfl (by decide) ?_
  refine r_iadd rfl ?_
  refine r_iaload rfl (by omega) hN ?_
  refine r_calli (args := [.inr (.inr 92), .inl ((xs (i + 1).toNat).toInt)]) (S' := []) rfl rfl rfl ?_
  refine RC.weak k (fun r h2 q => ?_)
  obtain ⟨w, rfl, k⟩ := q
  refine ⟨w, rfl, ?_⟩
  obtain ⟨kq, k⟩ := k
  refine r_popi rfl ?_
  refine r_goto rfl ?_
  refine r_iinc 5 rfl (by decide) (fun u q => by cases q) ?_
  refine r_goto rfl ?_
  exact k
theorem lw_c10 {i : Int} {hh : xH} (hi : 0 ≤ i ∧ i + 5 ≤ N) (hN : N ≤ 100000) (k : RCi d 94 [.inr (.inr 0), .inl ((xs (i + 1).toNat).toInt), .inl ((xs (i + 2).toNat).toInt), .inl ((xs (i + 3).toNat).toInt)] hh (fun v h1 => RCi d 145 [.inr (.inr 92), .inl ((xs (i + 1).toNat).toInt), .inl ((xs (i + 2).toNat).toInt), .inl ((xs (i + 3).toNat).toInt)] h1 (fun w h2 => True ∧ LR b N xs kL_law (d + 1) Q 18 [some (.inr (.inr 500)), some (.inr (.inr 0)), some (.inr (.inr 92)), some (.inl (i + 5))] [] h2))) : LR b N xs kL_law (d + 1) Q 418 [some (.inr (.inr 500)), some (.inr (.inr 0)), some (.inr (.inr 92)), some (.inl i)] [] hh := by
  refine r_aload_n rfl rfl ?_
  refine r_aload_n rfl rfl ?_
  refine r_iload_n rfl rfl ?_
  refine r_iconst 1 rfl (by decide) ?_
  refine r_iadd rfl ?_
  refine r_iaload rfl (by omega) hN ?_
  refine r_aload_n rfl rfl ?_
  refine r_iload_n rfl rfl ?_
  refine r_iconst 2 rfl (by decide) ?_
  refine r_iadd rfl ?_
  refine r_iaload rfl (by omega) hN ?_
  refine r_aload_n rfl rfl ?_
  refine r_iload_n rfl rfl ?_
  refine r_iconst 3 rfl (by decide) ?_
  refine r_iadd rfl ?_
  refine r_iaload rfl (by omega) hN ?_
  refine r_calli (args := [.inr (.inr 0), .inl ((xs (i + 1).toNat).toInt), .inl ((xs (i + 2).toNat).toInt), .inl ((xs (i + 3).toNat).toInt)]) (S' := []) rfl rfl rfl ?_
  refine RC.weak k (fun r h1 q => ?_)
  obtain ⟨v, rfl, k⟩ := q
  refine ⟨v, rfl, ?_⟩
  refine r_popi rfl ?_
  refine r_aload_n rfl rfl ?_
  refine r_aload_n rfl rfl ?_
  refine r_iload_n rfl rfl ?_
  refine r_iconst 1 rfl (by decide) ?_
  refine r_iadd rfl ?_
  refine r_iaload rfl (by omega) hN ?_
  refine r_aload_n rfl rfl ?_
  refine r_iload_n rfl rfl ?_
  refine r_iconst 2 rfl (by decide) ?_
  refine r_iadd rfl ?_
  refine r_iaload rfl (by omega) hN ?_
  refine r_aload_n rfl rfl ?_
  refine r_iload_n rfl rfl ?_
  refine r_iconst 3 rfl (by decide) ?_
  refine r_iadd rfl ?_
  refine r_iaload rfl (by omega) hN ?_
  refine r_calli (args := [.inr (.inr 92), .inl ((xs (i + 1).toNat).toInt), .inl ((xs (i + 2).toNat).toInt), .inl ((xs (i + 3).toNat).toInt)]) (S' := []) rfl rfl rfl ?_
  refine RC.weak k (fun r h2 q => ?_)
  obtain ⟨w, rfl, k⟩ := q
  refine ⟨w, rfl, ?_⟩
  obtain ⟨kq, k⟩ := k
  refine r_popi rfl ?_
  refine r_goto rfl ?_
  refine r_iinc 5 rfl (by decide) (fun u q => by cases q) ?_
  refine r_goto rfl ?_
  exact k
theorem lw_c11 {i : Int} {hh : xH} (hi : 0 ≤ i ∧ i + 5 ≤ N) (hN : N ≤ 100000) (k : RCi d 95 [.inr (.inr 0), .inl ((xs (i + 1).toNat).toInt), .inl ((xs (i + 2).toNat).toInt), .inl ((xs (i + 3).toNat).toInt)] hh (fun v h1 => RCi d 152 [.inr (.inr 92), .inl ((xs (i + 1).toNat).toInt), .inl ((xs (i + 2).toNat).toInt), .inl ((xs (i + 3).toNat).toInt)] h1 (fun w h2 => True ∧ LR b N xs kL_law (d + 1) Q 18 [some (.inr (.inr 500)), some (.inr (.inr 0)), some (.inr (.inr 92)), some (.inl (i + 5))] [] h2))) : LR b N xs kL_law (d + 1) Q 461 [some (.inr (.inr 500)), some (.inr (.inr 0)), some (.inr (.inr 92)), some (.inl i)] [] hh := by
  refine r_aload_n rfl rfl ?_
  refine r_aload_n rfl rfl ?_
  refine r_iload_n rfl rfl ?_
  refine r_iconst 1 rfl (by decide) ?_
  refine r_iadd rfl ?_
  refine r_iaload rfl (by omega) hN ?_
  refine r_aload_n rfl rfl ?_
  refine r_iload_n rfl rfl ?_
  refine r_iconst 2 rfl (by decide) ?_
  refine r_iadd rfl ?_
  refine r_iaload rfl (by omega) hN ?_
  refine r_aload_n rfl rfl ?_
  refine r_iload_n rfl rfl ?_
  refine r_iconst 3 rfl (by decide) ?_
  refine r_iadd rfl ?_
  refine r_iaload rfl (by omega) hN ?_
  refine r_calli (args := [.inr (.inr 0), .inl ((xs (i + 1).toNat).toInt), .inl ((xs (i + 2).toNat).toInt), .inl ((xs (i + 3).toNat).toInt)]) (S' := []) rfl rfl rfl ?_
  refine RC.weak k (fun r h1 q => ?_)
  obtain ⟨v, rfl, k⟩ := q
  refine ⟨v, rfl, ?_⟩
  refine r_popi rfl ?_
  refine r_aload_n rfl rfl ?_
  refine r_aload_n rfl rfl ?_
  refine r_iload_n rfl rfl ?_
  refine r_iconst 1 rfl (by decide) ?_
  refine r_iadd rfl ?_
  refine r_iaload rfl (by omega) hN ?_
  refine r_aload_n rfl rfl ?_
  refine r_iload_n rfl rfl ?_
  refine r_iconst 2 rfl (by decide) ?_
  refine r_iadd rfl ?_
  refine r_iaload rfl (by omega) hN ?_
  refine r_aload_n rfl rfl ?_
  refine r_iload_n rfl rfl ?_
  refine r_iconst 3 rfl (by decide) ?_
  refine r_iadd rfl ?_
  refine r_iaload rfl (by omega) hN ?_
  refine r_calli (args := [.inr (.inr 92), .inl ((xs (i + 1).toNat).toInt), .inl ((xs (i + 2).toNat).toInt), .inl ((xs (i + 3).toNat).toInt)]) (S' := []) rfl rfl rfl ?_
  refine RC.weak k (fun r h2 q => ?_)
  obtain ⟨w, rfl, k⟩ := q
  refine ⟨w, rfl, ?_⟩
  obtain ⟨kq, k⟩ := k
  refine r_popi rfl ?_
  refine r_goto rfl ?_
  refine r_iinc 5 rfl (by decide) (fun u q => by cases q) ?_
  refine r_goto rfl ?_
  exact k
theorem lw_c12 {i : Int} {hh : xH} (hi : 0 ≤ i ∧ i + 5 ≤ N) (hN : N ≤ 100000) (k : RCi d 96 [.inr (.inr 0), .inl ((xs (i + 1).toNat).toInt)] hh (fun v h1 => RCi d 153 [.inr (.inr 92), .inl ((xs (i + 1).toNat).toInt)] h1 (fun w h2 => True ∧ LR b N xs kL_law (d + 1) Q 18 [some (.inr (.inr 500)), some (.inr (.inr 0)), some (.inr (.inr 92)), some (.inl (i + 5))] [] h2))) : LR b N xs kL_law (d + 1) Q 504 [some (.inr (.inr 500)), some (.inr (.inr 0)), some (.inr (.inr 92)), some (.inl i)] [] hh := by
  refine r_aload_n rfl rfl ?_
  refine r_aload_n rfl rfl ?_
  refine r_iload_n rfl rfl ?_
  refine r_iconst 1 rfl (by decide) ?_
  refine r_iadd rfl ?_
  refine r_iaload rfl (by omega) hN ?_
  refine r_calli (args := [.inr (.inr 0), .inl ((xs (i + 1).toNat).toInt)]) (S' := []) rfl rfl rfl ?_
  refine RC.weak k (fun r h1 q => ?_)
  obtain ⟨v, rfl, k⟩ := q
  refine ⟨v, rfl, ?_⟩
  refine r_popi rfl ?_
  refine r_aload_n rfl rfl ?_
  refine r_aload_n rfl rfl ?_
  refine r_iload_n rfl rfl ?_
  refine r_iconst 1 rfl (by decide) ?_
  refine r_iadd rfl ?_
  refine r_iaload rfl (by omega) hN ?_
  refine r_calli (args := [.inr (.inr 92), .inl ((xs (i + 1).toNat).toInt)]) (S' := []) rfl rfl rfl ?_
  refine RC.weak k (fun r h2 q => ?_)
  obtain ⟨w, rfl, k⟩ := q
  refine ⟨w, rfl, ?_⟩
  obtain ⟨kq, k⟩ := k
  refine r_popi rfl ?_
  refine r_goto rfl ?_
  refine r_iinc 5 rfl (by decide) (fun u q => by cases q) ?_
  refine r_goto rfl ?_
  exact k
theorem lw_c13 {i : Int} {hh : xH} (hi : 0 ≤ i ∧ i + 5 ≤ N) (hN : N ≤ 100000) (k : RCi d 97 [.inr (.inr 0), .inl ((xs (i + 1).toNat).toInt)] hh (fun v h1 => RCi d 156 [.inr (.inr 92), .inl ((xs (i + 1).toNat).toInt)] h1 (fun w h2 => v = w ∧ LR b N xs kL_law (d + 1) Q 18 [some (.inr (.inr 500)), some (.inr (.inr 0)), some (.inr (.inr 92)), some (.inl (i + 5))] [] h2))) : LR b N xs kL_law (d + 1) Q 527 [some (.inr (.inr 500)), some (.inr (.inr 0)), some (.inr (.inr 92)), some (.inl i)] [] hh := by
  refine r_aload_n rfl rfl ?_
  refine r_aload_n rfl rfl ?_
  refine r_iload_n rfl rfl ?_
  refine r_iconst 1 rfl (by decide) ?_
  refine r_iadd rfl ?_
  refine r_iaload rfl (by omega) hN ?_
  refine r_calli (args := [.inr (.inr 0), .inl ((xs (i + 1).toNat).toInt)]) (S' := []) rfl rfl rfl ?_
  refine RC.weak k (fun r h1 q => ?_)
  obtain ⟨v, rfl, k⟩ := q
  refine ⟨v, rfl, ?_⟩
  refine r_aload_n rfl rfl ?_
  refine r_aload_n rfl rfl ?_
  refine r_iload_n rfl rfl ?_
  refine r_iconst 1 rfl (by decide) ?_
  refine r_iadd rfl ?_
  refine r_iaload rfl (by omega) hN ?_
  refine r_calli (args := [.inr (.inr 92), .inl ((xs (i + 1).toNat).toInt)]) (S' := [.inl v]) rfl rfl rfl ?_
  refine RC.weak k (fun r h2 q => ?_)
  obtain ⟨w, rfl, k⟩ := q
  refine ⟨w, rfl, ?_⟩
  obtain ⟨kq, k⟩ := k
  obtain rfl := kq
  refine r_same rfl ?_
  refine r_iinc 5 rfl (by decide) (fun u q => by cases q) ?_
  refine r_goto rfl ?_
  exact k
theorem lw_c14 {i : Int} {hh : xH} (hi : 0 ≤ i ∧ i + 5 ≤ N) (hN : N ≤ 100000) (k : RCi d 98 [.inr (.inr 0), .inl ((xs (i + 1).toNat).toInt), .inl ((xs (i + 2).toNat).toInt)] hh (fun v h1 => RCi d 157 [.inr (.inr 92), .inl ((xs (i + 1).toNat).toInt), .inl ((xs (i + 2).toNat).toInt)] h1 (fun w h2 => True ∧ LR b N xs kL_law (d + 1) Q 18 [some (.inr (.inr 500)), some (.inr (.inr 0)), some (.inr (.inr 92)), some (.inl (i + 5))] [] h2))) : LR b N xs kL_law (d + 1) Q 550 [some (.inr (.inr 500)), some (.inr (.inr 0)), some (.inr (.inr 92)), some (.inl i)] [] hh := by
  refine r_aload_n rfl rfl ?_
  refine r_aload_n rfl rfl ?_
  refine r_iload_n rfl rfl ?_
  refine r_iconst 1 rfl (by decide) ?_
  refine r_iadd rfl ?_
  refine r_iaload rfl (by omega) hN ?_
  refine r_aload_n rfl rfl ?_
  refine r_iload_n rfl rfl ?_
  refine r_iconst 2 rfl (by decide) ?_
  refine r_iadd rfl ?_
  refine r_iaload rfl (by omega) hN ?_
  refine r_calli (args := [.inr (.inr 0), .inl ((xs (i + 1).toNat).toInt), .inl ((xs (i + 2).toNat).toInt)]) (S' := []) rfl rfl rfl ?_
  refine RC.weak k (fun r h1 q => ?_)
  obtain ⟨v, rfl, k⟩ := q
  refine ⟨v, rfl, ?_⟩
  refine r_popi rfl ?_
  refine r_aload_n rfl rfl ?_
  refine r_aload_n rfl rfl ?_
  refine r_iload_n rfl rfl ?_
  refine r_iconst 1 rfl (by decide) ?_
  refine r_iadd rfl ?_
  refine r_iaload rfl (by omega) hN ?_
  refine r_aload_n rfl rfl ?_
  refine r_iload_n rfl rfl ?_
  refine r_iconst 2 rfl (by decide) ?_
  refine r_iadd rfl ?_
  refine r_iaload rfl (by omega) hN ?_
  refine r_calli (args := [.inr (.inr 92), .inl ((xs (i + 1).toNat).toInt), .inl ((xs (i + 2).toNat).toInt)]) (S' := []) rfl rfl rfl ?_
  refine RC.weak k (fun r h2 q => ?_)
  obtain ⟨w, rfl, k⟩ := q
  refine ⟨w, rfl, ?_⟩
  obtain ⟨kq, k⟩ := k
  refine r_popi rfl ?_
  refine r_goto rfl ?_
  refine r_iinc 5 rfl (by decide) (fun u q => by cases q) ?_
  refine r_goto rfl ?_
  exact k
theorem lw_c15 {i : Int} {hh : xH} (hi : 0 ≤ i ∧ i + 5 ≤ N) (hN : N ≤ 100000) (k : RCi d 99 [.inr (.inr 0), .inl ((xs (i + 1).toNat).toInt), .inl ((xs (i + 2).toNat).toInt)] hh (fun v h1 => RCi d 158 [.inr (.inr 92), .inl ((xs (i + 1).toNat).toInt), .inl ((xs (i + 2).toNat).toInt)] h1 (fun w h2 => True ∧ LR b N xs kL_law (d + 1) Q 18 [some (.inr (.inr 500)), some (.inr (.inr 0)), some (.inr (.inr 92)), some (.inl (i + 5))] [] h2))) : LR b N xs kL_law (d + 1) Q 583 [some (.inr (.inr 500)), some (.inr (.inr 0)), some (.inr (.inr 92)), some (.inl i)] [] hh := by
  refine r_aload_n rfl rfl ?_
  refine r_aload_n rfl rfl ?_
  refine r_iload_n rfl rfl ?_
  refine r_iconst 1 rfl (by decide) ?_
  refine r_iadd rfl ?_
  refine r_iaload rfl (by omega) hN ?_
  refine r_aload_n rfl rfl ?_
  refine r_iload_n rfl rfl ?_
  refine r_iconst 2 rfl (by decide) ?_
  refine r_iadd rfl ?_
  refine r_iaload rfl (by omega) hN ?_
  refine r_calli (args := [.inr (.inr 0), .inl ((xs (i + 1).toNat).toInt), .inl ((xs (i + 2).toNat).toInt)]) (S' := []) rfl rfl rfl ?_
  refine RC.weak k (fun r h1 q => ?_)
  obtain ⟨v, rfl, k⟩ := q
  refine ⟨v, rfl, ?_⟩
  refine r_popi rfl ?_
  refine r_aload_n rfl rfl ?_
  refine r_aload_n rfl rfl ?_
  refine r_iload_n rfl rfl ?_
  refine r_iconst 1 rfl (by decide) ?_
  refine r_iadd rfl ?_
  refine r_iaload rfl (by omega) hN ?_
  refine r_aload_n rfl rfl ?_
  refine r_iload_n rfl rfl ?_
  refine r_iconst 2 rfl (by decide) ?_
  refine r_iadd rfl ?_
  refine r_iaload rfl (by omega) hN ?_
  refine r_calli (args := [.inr (.inr 92), .inl ((xs (i + 1).toNat).toInt), .inl ((xs (i + 2).toNat).toInt)]) (S' := []) rfl rfl rfl ?_
  refine RC.weak k (fun r h2 q => ?_)
  obtain ⟨w, rfl, k⟩ := q
  refine ⟨w, rfl, ?_⟩
  obtain ⟨kq, k⟩ := k
  refine r_popi rfl ?_
  refine r_goto rfl ?_
  refine r_iinc 5 rfl (by decide) (fun u q => by cases q) ?_
  refine r_goto rfl ?_
  exact k
theorem lw_c16 {i : Int} {hh : xH} (hi : 0 ≤ i ∧ i + 5 ≤ N) (hN : N ≤ 100000) (k : RCi d 100 [.inr (.inr 0), .inl ((xs (i + 1).toNat).toInt)] hh (fun v h1 => RCi d 161 [.inr (.inr 92), .inl ((xs (i + 1).toNat).toInt)] h1 (fun w h2 => True ∧ LR b N xs kL_law (d + 1) Q 18 [some (.inr (.inr 500)), some (.inr (.inr 0)), some (.inr (.inr 92)), some (.inl (i + 5))] [] h2))) : LR b N xs kL_law (d + 1) Q 616 [some (.inr (.inr 500)), some (.inr (.inr 0)), some (.inr (.inr 92)), some (.inl i)] [] hh := by
  refine r_aload_n rfl rfl ?_
  refine r_aload_n rfl rfl ?_
  refine r_iload_n rfl rfl ?_
  refine r_iconst 1 rfl (by decide) ?_
  refine r_iadd rfl ?_
  refine r_iaload rfl (by omega) hN ?_
  refine r_calli (args := [.inr (.inr 0), .inl ((xs (i + 1).toNat).toInt)]) (S' := []) rfl rfl rfl ?_
  refine RC.weak k (fun r h1 q => ?_)
  obtain ⟨v, rfl, k⟩ := q
  refine ⟨v, rfl, ?_⟩
  refine r_popi rfl ?_
  refine r_aload_n rfl rfl ?_
  refine r_aload_n rfl rfl ?_
  refine r_iload_n rfl rfl ?_
  refine r_iconst 1 rfl (by decide) ?_
  refine r_iadd rfl ?_
  refine r_iaload rfl (by omega) hN ?_
  refine r_calli (args := [.inr (.inr 92), .inl ((xs (i + 1).toNat).toInt)]) (S' := []) rfl rfl rfl ?_
  refine RC.weak k (fun r h2 q => ?_)
  obtain ⟨w, rfl, k⟩ := q
  refine ⟨w, rfl, ?_⟩
  obtain ⟨kq, k⟩ := k
  refine r_popi rfl ?_
  refine r_goto rfl ?_
  refine r_iinc 5 rfl (by decide) (fun u q => by cases q) ?_
  refine r_goto rfl ?_
  exact k
theorem lw_c17 {i : Int} {hh : xH} (hi : 0 ≤ i ∧ i + 5 ≤ N) (hN : N ≤ 100000) (k : RCi d 101 [.inr (.inr 0), .inr (.inl (zor (zshl ((xs (i + 1).toNat).toInt) 32) (zand ((xs (i + 2).toNat).toInt) 4294967295))), .inl ((xs (i + 3).toNat).toInt)] hh (fun v h1 => RCi d 162 [.inr (.inr 92), .inr (.inl (zor (zshl ((xs (i + 1).toNat).toInt) 32) (zand ((xs (i + 2).toNat).toInt) 4294967295))), .inl ((xs (i + 3).toNat).toInt)] h1 (fun w h2 => True ∧ LR b N xs kL_law (d + 1) Q 18 [some (.inr (.inr 500)), some (.inr (.inr 0)), some (.inr (.inr 92)), some (.inl (i + 5))] [] h2))) : LR b N xs kL_law (d + 1) Q 639 [some (.inr (.inr 500)), some (.inr (.inr 0)), some (.inr (.inr 92)), some (.inl i)] [] hh := by
  refine r_aload_n rfl rfl ?_
  refine r_aload_n rfl rfl ?_
  refine r_iload_n rfl rfl ?_
  refine r_iconst 1 rfl (by decide) ?_
  refine r_iadd rfl ?_
  refine r_iaload rfl (by omega) hN ?_
  refine r_i2l rfl (rng_toInt _) ?_
  refine r_bipush 32 rfl (by decide) ?_
  refine r_lshl rfl ?_
  refine r_aload_n rfl rfl ?_
  refine r_iload_n rfl rfl ?_
  refine r_iconst 2 rfl (by decide) ?_
  refine r_iadd rfl ?_
  refine r_iaload rfl (by omega) hN ?_
  refine r_i2l rfl (rng_toInt _) ?_
  refine r_ldc2_w 4294967295 rfl (by decide) ?_
  refine r_land rfl ?_
  refine r_lor rfl ?_
  refine r_aload_n rfl rfl ?_
  refine r_iload_n rfl rfl ?_
  refine r_iconst 3 rfl (by decide) ?_
  refine r_iadd rfl ?_
  refine r_iaload rfl (by omega) hN ?_
  refine r_calli (args := [.inr (.inr 0), .inr (.inl (zor (zshl ((xs (i + 1).toNat).toInt) 32) (zand ((xs (i + 2).toNat).toInt) 4294967295))), .inl ((xs (i + 3).toNat).toInt)]) (S' := []) rfl rfl rfl ?_
  refine RC.weak k (fun r h1 q => ?_)
  obtain ⟨v, rfl, k⟩ := q
  refine ⟨v, rfl, ?_⟩
  refine r_popi rfl ?_
  refine r_aload_n rfl rfl ?_
  refine r_aload_n rfl rfl ?_
  refine r_iload_n rfl rfl ?_
  refine r_iconst 1 rfl (by decide) ?_
  refine r_iadd rfl ?_
  refine r_iaload rfl (by omega) hN ?_
  refine r_i2l rfl (rng_toInt _) ?_
  refine r_bipush 32 rfl (by decide) ?_
  refine r_lshl rfl ?_
  refine r_aload_n rfl rfl ?_
  refine r_iload_n rfl rfl ?_
  refine r_iconst 2 rfl (by decide) ?_
  refine r_iadd rfl ?_
  refine r_iaload rfl (by omega) hN ?_
  refine r_i2l rfl (rng_toInt _) ?_
  refine r_ldc2_w 4294967295 rfl (by decide) ?_
  refine r_land rfl ?_
  refine r_lor rfl ?_
  refine r_aload_n rfl rfl ?_
  refine r_iload_n rfl rfl ?_
  refine r_iconst 3 rfl (by decide) ?_
  refine r_iadd rfl ?_
  refine r_iaload rfl (by omega) hN ?_
  refine r_calli (args := [.inr (.inr 92), .inr (.inl (zor (zshl ((xs (i + 1).toNat).toInt) 32) (zand ((xs (i + 2).toNat).toInt) 4294967295))), .inl ((xs (i + 3).toNat).toInt)]) (S' := []) rfl rfl rfl ?_
  refine RC.weak k (fun r h2 q => ?_)
  obtain ⟨w, rfl, k⟩ := q
  refine ⟨w, rfl, ?_⟩
  obtain ⟨kq, k⟩ := k
  refine r_popi rfl ?_
  refine r_goto rfl ?_
  refine r_iinc 5 rfl (by decide) (fun u q => by cases q) ?_
  refine r_goto rfl ?_
  exact k
theorem lw_c18 {i : Int} {hh : xH} (hi : 0 ≤ i ∧ i + 5 ≤ N) (hN : N ≤ 100000) (k : RCi d 102 [.inr (.inr 0)] hh (fun v h1 => RCi d 163 [.inr (.inr 92)] h1 (fun w h2 => True ∧ LR b N xs kL_law (d + 1) Q 18 [some (.inr (.inr 500)), some (.inr (.inr 0)), some (.inr (.inr 92)), some (.inl (i + 5))] [] h2))) : LR b N xs kL_law (d + 1) Q 702 [some (.inr (.inr 500)), some (.inr (.inr 0)), some (.inr (.inr 92)), some (.inl i)] [] hh := by
  refine r_aload_n rfl rfl ?_
  refine r_calli (args := [.inr (.inr 0)]) (S' := []) rfl rfl rfl ?_
  refine RC.weak k (fun r h1 q => ?_)
  obtain ⟨v, rfl, k⟩ := q
  refine ⟨v, rfl, ?_⟩
  refine r_popi rfl ?_
  refine r_aload_n rfl rfl ?_
  refine r_calli (args := [.inr (.inr 92)]) (S' := []) rfl rfl rfl ?_
  refine RC.weak k (fun r h2 q => ?_)
  obtain ⟨w, rfl, k⟩ := q
  refine ⟨w, rfl, ?_⟩
  obtain ⟨kq, k⟩ := k
  refine r_popi rfl ?_
  refine r_goto rfl ?_
  refine r_iinc 5 rfl (by decide) (fun u q => by cases q) ?_
  refine r_goto rfl ?_
  exact k
theorem lw_c19 {i : Int} {hh : xH} (hi : 0 ≤ i ∧ i + 5 ≤ N) (hN : N ≤ 100000) (k : RCi d 103 [.inr (.inr 0), .inl ((xs (i + 1).toNat).toInt)] hh (fun v h1 => RCi d 169 [.inr (.inr 92), .inl ((xs (i + 1).toNat).toInt)] h1 (fun w h2 => True ∧ LR b N xs kL_law (d + 1) Q 18 [some (.inr (.inr 500)), some (.inr (.inr 0)), some (.inr (.inr 92)), some (.inl (i + 5))] [] h2))) : LR b N xs kL_law (d + 1) Q 715 [some (.inr (.inr 500)), some (.inr (.inr 0)), some (.inr (.inr 92)), some (.inl i)] [] hh := by
  refine r_aload_n rfl rfl ?_
  refine r_aload_n rfl rfl ?_
  refine r_iload_n rfl rfl ?_
  refine r_iconst 1 rfl (by decide) ?_
  refine r_iadd rfl ?_
  refine r_iaload rfl (by omega) hN ?_
  refine r_calli (args := [.inr (.inr 0), .inl ((xs (i + 1).toNat).toInt)]) (S' := []) rfl rfl rfl ?_
  refine RC.weak k (fun r h1 q => ?_)
  obtain ⟨v, rfl, k⟩ := q
  refine ⟨v, rfl, ?_⟩
  refine r_popi rfl ?_
  refine r_aload_n rfl rfl ?_
  refine r_aload_n rfl rfl ?_
  refine r_iload_n rfl rfl ?_
  refine r_iconst 1 rfl (by decide) ?_
  refine r_iadd rfl ?_
  refine r_iaload rfl (by omega) hN ?_
  refine r_calli (args := [.inr (.inr 92), .inl ((xs (i + 1).toNat).toInt)]) (S' := []) rfl rfl rfl ?_
  refine RC.weak k (fun r h2 q => ?_)
  obtain ⟨w, rfl, k⟩ := q
  refine ⟨w, rfl, ?_⟩
  obtain ⟨kq, k⟩ := k
  refine r_popi rfl ?_
  refine r_goto rfl ?_
  refine r_iinc 5 rfl (by decide) (fun u q => by cases q) ?_
  refine r_goto rfl ?_
  exact k
theorem lw_c20 {i : Int} {hh : xH} (hi : 0 ≤ i ∧ i + 5 ≤ N) (hN : N ≤ 100000) (k : RCi d 104 [.inr (.inr 0), .inl ((xs (i + 1).toNat).toInt), .inl ((xs (i + 2).toNat).toInt), .inl ((xs (i + 3).toNat).toInt), .inl ((xs (i + 4).toNat).toInt)] hh (fun v h1 => RCi d 171 [.inr (.inr 92), .inl ((xs (i + 1).toNat).toInt), .inl ((xs (i + 2).toNat).toInt), .inl ((xs (i + 3).toNat).toInt), .inl ((xs (i + 4).toNat).toInt)] h1 (fun w h2 => True ∧ LR b N xs kL_law (d + 1) Q 18 [some (.inr (.inr 500)), some (.inr (.inr 0)), some (.inr (.inr 92)), some (.inl (i + 5))] [] h2))) : LR b N xs kL_law (d + 1) Q 738 [some (.inr (.inr 500)), some (.inr (.inr 0)), some (.inr (.inr 92)), some (.inl i)] [] hh := by
  refine r_aload_n rfl rfl ?_
  refine r_aload_n rfl rfl ?_
  refine r_iload_n rfl rfl ?_
  refine r_iconst 1 rfl (by decide) ?_
  refine r_iadd rfl ?_
  refine r_iaload rfl (by omega) hN ?_
  refine r_aload_n rfl rfl ?_
  refine r_iload_n rfl rfl ?_
  refine r_iconst 2 rfl (by decide) ?_
  refine r_iadd rfl ?_
  refine r_iaload rfl (by omega) hN ?_
  refine r_aload_n rfl rfl ?_
  refine r_iload_n rfl rfl ?_
  refine r_iconst 3 rfl (by decide) ?_
  refine r_iadd rfl ?_
  refine r_iaload rfl (by omega) hN ?_
  refine r_aload_n rfl rfl ?_
  refine r_iload_n rfl rfl ?_
  refine r_iconst 4 rfl (by decide) ?_
  refine r_iadd rfl ?_
  refine r_iaload rfl (by omega) hN ?_
  refine r_calli (args := [.inr (.inr 0), .inl ((xs (i + 1).toNat).toInt), .inl ((xs (i + 2).toNat).toInt), .inl ((xs (i + 3).toNat).toInt), .inl ((xs (i + 4).toNat).toInt)]) (S' := []) rfl rfl rfl ?_
  refine RC.weak k (fun r h1 q => ?_)
  obtain ⟨v, rfl, k⟩ := q
  refine ⟨v, rfl, ?_⟩
  refine r_popi rfl ?_
  refine r_aload_n rfl rfl ?_
  refine r_aload_n rfl rfl ?_
  refine r_iload_n rfl rfl ?_
  refine r_iconst 1 rfl (by decide) ?_
  refine r_iadd rfl ?_
  refine r_iaload rfl (by omega) hN ?_
  refine r_aload_n rfl rfl ?_
  refine r_iload_n rfl rfl ?_
  refine r_iconst 2 rfl (by decide) ?_
  refine r_iadd rfl ?_
  refine r_iaload rfl (by omega) hN ?_
  refine r_aload_n rfl rfl ?_
  refine r_iload_n rfl rfl ?_
  refine r_iconst 3 rfl (by decide) ?_
  refine r_iadd rfl ?_
  refine r_iaload rfl (by omega) hN ?_
  refine r_aload_n rfl rfl ?_
  refine r_iload_n rfl rfl ?_
  refine r_iconst 4 rfl (by decide) ?_
  refine r_iadd rfl ?_
  refine r_iaload rfl (by omega) hN ?_
  refine r_calli (args := [.inr (.inr 92), .inl ((xs (i + 1).toNat).toInt), .inl ((xs (i + 2).toNat).toInt), .inl ((xs (i + 3).toNat).toInt), .inl ((xs (i + 4).toNat).toInt)]) (S' := []) rfl rfl rfl ?_
  refine RC.weak k (fun r h2 q => ?_)
  obtain ⟨w, rfl, k⟩ := q
  refine ⟨w, rfl, ?_⟩
  obtain ⟨kq, k⟩ := k
  refine r_popi rfl ?_
  refine r_goto rfl ?_
  refine r_iinc 5 rfl (by decide) (fun u q => by cases q) ?_
  refine r_goto rfl ?_
  exact k
theorem lw_c21 {i : Int} {hh : xH} (hi : 0 ≤ i ∧ i + 5 ≤ N) (hN : N ≤ 100000) (k : RCi d 105 [.inr (.inr 0), .inl ((xs (i + 1).toNat).toInt), .inl ((xs (i + 2).toNat).toInt)] hh (fun v h1 => RCi d 173 [.inr (.inr 92), .inl ((xs (i + 1).toNat).toInt), .inl ((xs (i + 2).toNat).toInt)] h1 (fun w h2 => True ∧ LR b N xs kL_law (d + 1) Q 18 [some (.inr (.inr 500)), some (.inr (.inr 0)), some (.inr (.inr 92)), some (.inl (i + 5))] [] h2))) : LR b N xs kL_law (d + 1) Q 791 [some (.inr (.inr 500)), some (.inr (.inr 0)), some (.inr (.inr 92)), some (.inl i)] [] hh := by
  refine r_aload_n rfl rfl ?_
  refine r_aload_n rfl rfl ?_
  refine r_iload_n rfl rfl ?_
  refine r_iconst 1 rfl (by decide) ?_
  refine r_iadd rfl ?_
  refine r_iaload rfl (by omega) hN ?_
  refine r_aload_n rfl rfl ?_
  refine r_iload_n rfl rfl ?_
  refine r_iconst 2 rfl (by decide) ?_
  refine r_iadd rfl ?_
  refine r_iaload rfl (by omega) hN ?_
  refine r_calli (args := [.inr (.inr 0), .inl ((xs (i + 1).toNat).toInt), .inl ((xs (i + 2).toNat).toInt)]) (S' := []) rfl rfl rfl ?_
  refine RC.weak k (fun r h1 q => ?_)
  obtain ⟨v, rfl, k⟩ := q
  refine ⟨v, rfl, ?_⟩
  refine r_popi rfl ?_
  refine r_aload_n rfl rfl ?_
  refine r_aload_n rfl rfl ?_
  refine r_iload_n rfl rfl ?_
  refine r_iconst 1 rfl (by decide) ?_
  refine r_iadd rfl ?_
  refine r_iaload rfl (by omega) hN ?_
  refine r_aload_n rfl rfl ?_
  refine r_iload_n rfl rfl ?_
  refine r_iconst 2 rfl (by decide) ?_
  refine r_iadd rfl ?_
  refine r_iaload rfl (by omega) hN ?_
  refine r_calli (args := [.inr (.inr 92), .inl ((xs (i + 1).toNat).toInt), .inl ((xs (i + 2).toNat).toInt)]) (S' := []) rfl rfl rfl ?_
  refine RC.weak k (fun r h2 q => ?_)
  obtain ⟨w, rfl, k⟩ := q
  refine ⟨w, rfl, ?_⟩
  obtain ⟨kq, k⟩ := k
  refine r_popi rfl ?_
  refine r_goto rfl ?_
  refine r_iinc 5 rfl (by decide) (fun u q => by cases q) ?_
  refine r_goto rfl ?_
  exact k
theorem lw_c22 {i : Int} {hh : xH} (hi : 0 ≤ i ∧ i + 5 ≤ N) (hN : N ≤ 100000) (k : RCi d 106 [.inr (.inr 0), .inl ((xs (i + 1).toNat).toInt), .inl ((xs (i + 2).toNat).toInt)] hh (fun v h1 => RCi d 176 [.inr (.inr 92), .inl ((xs (i + 1).toNat).toInt), .inl ((xs (i + 2).toNat).toInt)] h1 (fun w h2 => True ∧ LR b N xs kL_law (d + 1) Q 18 [some (.inr (.inr 500)), some (.inr (.inr 0)), some (.inr (.inr 92)), some (.inl (i + 5))] [] h2))) : LR b N xs kL_law (d + 1) Q 824 [some (.inr (.inr 500)), some (.inr (.inr 0)), some (.inr (.inr 92)), some (.inl i)] [] hh := by
  refine r_aload_n rfl rfl ?_
  refine r_aload_n rfl rfl ?_
  refine r_iload_n rfl rfl ?_
  refine r_iconst 1 rfl (by decide) ?_
  refine r_iadd rfl ?_
  refine r_iaload rfl (by omega) hN ?_
  refine r_aload_n rfl rfl ?_
  refine r_iload_n rfl rfl ?_
  refine r_iconst 2 rfl (by decide) ?_
  refine r_iadd rfl ?_
  refine r_iaload rfl (by omega) hN ?_
  refine r_calli (args := [.inr (.inr 0), .inl ((xs (i + 1).toNat).toInt), .inl ((xs (i + 2).toNat).toInt)]) (S' := []) rfl rfl rfl ?_
  refine RC.weak k (fun r h1 q => ?_)
  obtain ⟨v, rfl, k⟩ := q
  refine ⟨v, rfl, ?_⟩
  refine r_popi rfl ?_
  refine r_aload_n rfl rfl ?_
  refine r_aload_n rfl rfl ?_
  refine r_iload_n rfl rfl ?_
  refine r_iconst 1 rfl (by decide) ?_
  refine r_iadd rfl ?_
  refine r_iaload rfl (by omega) hN ?_
  refine r_aload_n rfl rfl ?_
  refine r_iload_n rfl rfl ?_
  refine r_iconst 2 rfl (by decide) ?_
  refine r_iadd rfl ?_
  refine r_iaload rfl (by omega) hN ?_
  refine r_calli (args := [.inr (.inr 92), .inl ((xs (i + 1).toNat).toInt), .inl ((xs (i + 2).toNat).toInt)]) (S' := []) rfl rfl rfl ?_
  refine RC.weak k (fun r h2 q => ?_)
  obtain ⟨w, rfl, k⟩ := q
  refine ⟨w, rfl, ?_⟩
  obtain ⟨kq, k⟩ := k
  refine r_popi rfl ?_
  refine r_goto rfl ?_
  refine r_iinc 5 rfl (by decide) (fun u q => by cases q) ?_
  refine r_goto rfl ?_
  exact k
theorem lw_c23 {i : Int} {hh : xH} (hi : 0 ≤ i ∧ i + 5 ≤ N) (hN : N ≤ 100000) (k : RCi d 107 [.inr (.inr 0), .inl ((xs (i + 1).toNat).toInt)] hh (fun v h1 => RCi d 177 [.inr (.inr 92), .inl ((xs (i + 1).toNat).toInt)] h1 (fun w h2 => True ∧ LR b N xs kL_law (d + 1) Q 18 [some (.inr (.inr 500)), some (.inr (.inr 0)), some (.inr (.inr 92)), some (.inl (i + 5))] [] h2))) : LR b N xs kL_law (d + 1) Q 857 [some (.inr (.inr 500)), some (.inr (.inr 0)), some (.inr (.inr 92)), some (.inl i)] [] hh := by
  refine r_aload_n rfl rfl ?_
  refine r_aload_n rfl rfl ?_
  refine r_iload_n rfl rfl ?_
  refine r_iconst 1 rfl (by decide) ?_
  refine r_iadd rfl ?_
  refine r_iaload rfl (by omega) hN ?_
  refine r_calli (args := [.inr (.inr 0), .inl ((xs (i + 1).toNat).toInt)]) (S' := []) rfl rfl rfl ?_
  refine RC.weak k (fun r h1 q => ?_)
  obtain ⟨v, rfl, k⟩ := q
  refine ⟨v, rfl, ?_⟩
  refine r_popi rfl ?_
  refine r_aload_n rfl rfl ?_
  refine r_aload_n rfl rfl ?_
  refine r_iload_n rfl rfl ?_
  refine r_iconst 1 rfl (by decide) ?_
  refine r_iadd rfl ?_
  refine r_iaload rfl (by omega) hN ?_
  refine r_calli (args := [.inr (.inr 92), .inl ((xs (i + 1).toNat).toInt)]) (S' := []) rfl rfl rfl ?_
  refine RC.weak k (fun r h2 q => ?_)
  obtain ⟨w, rfl, k⟩ := q
  refine ⟨w, rfl, ?_⟩
  obtain ⟨kq, k⟩ := k
  refine r_popi rfl ?_
  refine r_goto rfl ?_
  refine r_iinc 5 rfl (by decide) (fun u q => by cases q) ?_
  refine r_goto rfl ?_
  exact k
theorem lw_c24 {i : Int} {hh : xH} (hi : 0 ≤ i ∧ i + 5 ≤ N) (hN : N ≤ 100000) (k : RCl d 108 [.inr (.inr 0)] hh (fun v h1 => RCl d 178 [.inr (.inr 92)] h1 (fun w h2 => True ∧ LR b N xs kL_law (d + 1) Q 18 [some (.inr (.inr 500)), some (.inr (.inr 0)), some (.inr (.inr 92)), some (.inl (i + 5))] [] h2))) : LR b N xs kL_law (d + 1) Q 880 [some (.inr (.inr 500)), some (.inr (.inr 0)), some (.inr (.inr 92)), some (.inl i)] [] hh := by
  refine r_aload_n rfl rfl ?_
  refine r_calll (args := [.inr (.inr 0)]) (S' := []) rfl rfl rfl ?_
  refine RC.weak k (fun r h1 q => ?_)
  obtain ⟨v, rfl, k⟩ := q
  refine ⟨v, rfl, ?_⟩
  refine r_pop2 rfl ?_
  refine r_aload_n rfl rfl ?_
  refine r_calll (args := [.inr (.inr 92)]) (S' := []) rfl rfl rfl ?_
  refine RC.weak k (fun r h2 q => ?_)
  obtain ⟨w, rfl, k⟩ := q
  refine ⟨w, rfl, ?_⟩
  obtain ⟨kq, k⟩ := k
  refine r_pop2 rfl ?_
  refine r_goto rfl ?_
  refine r_iinc 5 rfl (by decide) (fun u q => by cases q) ?_
  refine r_goto rfl ?_
  exact k
theorem lw_df {i : Int} {hh : xH} (k : LR b N xs kL_law d Q 18 [some (.inr (.inr 500)), some (.inr (.inr 0)), some (.inr (.inr 92)), some (.inl (i + 5))] [] hh) : LR b N xs kL_law d Q 893 [some (.inr (.inr 500)), some (.inr (.inr 0)), some (.inr (.inr 92)), some (.inl i)] [] hh := by
  refine r_iinc 5 rfl (by decide) (fun u q => by cases q) ?_
  refine r_goto rfl ?_
  exact k
theorem lw_body {i : Int} {hh : xH} (hi : 0 ≤ i ∧ i + 5 ≤ N) (hN : N ≤ 100000) (c0 : (yand (xs i.toNat).toInt 31) = 0 → LR b N xs kL_law d Q 148 [some (.inr (.inr 500)), some (.inr (.inr 0)), some (.inr (.inr 92)), some (.inl i)] [] hh) (c1 : (yand (xs i.toNat).toInt 31) = 1 → LR b N xs kL_law d Q 171 [some (.inr (.inr 500)), some (.inr (.inr 0)), some (.inr (.inr 92)), some (.inl i)] [] hh) (c2 : (yand (xs i.toNat).toInt 31) = 2 → LR b N xs kL_law d Q 204 [some (.inr (.inr 500)), some (.inr (.inr 0)), some (.inr (.inr 92)), some (.inl i)] [] hh) (c3 : (yand (xs i.toNat).toInt 31) = 3 → LR b N xs kL_law d Q 257 [some (.inr (.inr 500)), some (.inr (.inr 0)), some (.inr (.inr 92)), some (.inl i)] [] hh) (c4 : (yand (xs i.toNat).toInt 31) = 4 → LR b N xs kL_law d Q 290 [some (.inr (.inr 500)), some (.inr (.inr 0)), some (.inr (.inr 92)), some (.inl i)] [] hh) (c5 : (yand (xs i.toNat).toInt 31) = 5 → LR b N xs kL_law d Q 313 [some (.inr (.inr 500)), some (.inr (.inr 0)), some (.inr (.inr 92)), some (.inl i)] [] hh) (c6 : (yand (xs i.toNat).toInt 31) = 6 → LR b N xs kL_law d Q 326 [some (.inr (.inr 500)), some (.inr (.inr 0)), some (.inr (.inr 92)), some (.inl i)] [] hh) (c7 : (yand (xs i.toNat).toInt 31) = 7 → LR b N xs kL_law d Q 359 [some (.inr (.inr 500)), some (.inr (.inr 0)), some (.inr (.inr 92)), some (.inl i)] [] hh) (c8 : (yand (xs i.toNat).toInt 31) = 8 → LR b N xs kL_law d Q 372 [some (.inr (.inr 500)), some (.inr (.inr 0)), some (.inr (.inr 92)), some (.inl i)] [] hh) (c9 : (yand (xs i.toNat).toInt 31) = 9 → LR b N xs kL_law d Q 395 [some (.inr (.inr 500)), some (.inr (.inr 0)), some (.inr (.inr 92)), some (.inl i)] [] hh) (c10 : (yand (xs i.toNat).toInt 31) = 10 → LR b N xs kL_law d Q 418 [some (.inr (.inr 500)), some (.inr (.inr 0)), some (.inr (.inr 92)), some (.inl i)] [] hh) (c11 : (yand (xs i.toNat).toInt 31) = 11 → LR b N xs kL_law d Q 461 [some (.inr (.inr 500)), some (.inr (.inr 0)), some (.inr (.inr 92)), some (.inl i)] [] hh) (c12 : (yand (xs i.toNat).toInt 31) = 12 → LR b N xs kL_law d Q 504 [some (.inr (.inr 500)), some (.inr (.inr 0)), some (.inr (.inr 92)), some (.inl i)] [] hh) (c13 : (yand (xs i.toNat).toInt 31) = 13 → LR b N xs kL_law d Q 527 [some (.inr (.inr 500)), some (.inr (.inr 0)), some (.inr (.inr 92)), some (.inl i)] [] hh) (c14 : (yand (xs i.toNat).toInt 31) = 14 → LR b N xs kL_law d Q 550 [some (.inr (.inr 500)), some (.inr (.inr 0)), some (.inr (.inr 92)), some (.inl i)] [] hh) (c15 : (yand (xs i.toNat).toInt 31) = 15 → LR b N xs kL_law d Q 583 [some (.inr (.inr 500)), some (.inr (.inr 0)), some (.inr (.inr 92)), some (.inl i)] [] hh) (c16 : (yand (xs i.toNat).toInt 31) = 16 → LR b N xs kL_law d Q 616 [some (.inr (.inr 500)), some (.inr (.inr 0)), some (.inr (.inr 92)), some (.inl i)] [] hh) (c17 : (yand (xs i.toNat).toInt 31) = 17 → LR b N xs kL_law d Q 639 [some (.inr (.inr 500)), some (.inr (.inr 0)), some (.inr (.inr 92)), some (.inl i)] [] hh) (c18 : (yand (xs i.toNat).toInt 31) = 18 → LR b N xs kL_law d Q 702 [some (.inr (.inr 500)), some (.inr (.inr 0)), some (.inr (.inr 92)), some (.inl i)] [] hh) (c19 : (yand (xs i.toNat).toInt 31) = 19 → LR b N xs kL_law d Q 715 [some (.inr (.inr 500)), some (.inr (.inr 0)), some (.inr (.inr 92)), some (.inl i)] [] hh) (c20 : (yand (xs i.toNat).toInt 31) = 20 → LR b N xs kL_law d Q 738 [some (.inr (.inr 500)), some (.inr (.inr 0)), some (.inr (.inr 92)), some (.inl i)] [] hh) (c21 : (yand (xs i.toNat).toInt 31) = 21 → LR b N xs kL_law d Q 791 [some (.inr (.inr 500)), some (.inr (.inr 0)), some (.inr (.inr 92)), some (.inl i)] [] hh) (c22 : (yand (xs i.toNat).toInt 31) = 22 → LR b N xs kL_law d Q 824 [some (.inr (.inr 500)), some (.inr (.inr 0)), some (.inr (.inr 92)), some (.inl i)] [] hh) (c23 : (yand (xs i.toNat).toInt 31) = 23 → LR b N xs kL_law d Q 857 [some (.inr (.inr 500)), some (.inr (.inr 0)), some (.inr (.inr 92)), some (.inl i)] [] hh) (c24 : (yand (xs i.toNat).toInt 31) = 24 → LR b N xs kL_law d Q 880 [some (.inr (.inr 500)), some (.inr (.inr 0)), some (.inr (.inr 92)), some (.inl i)] [] hh) (df : LR b N xs kL_law d Q 893 [some (.inr (.inr 500)), some (.inr (.inr 0)), some (.inr (.inr 92)), some (.inl i)] [] hh) : LR b N xs kL_law d Q 18 [some (.inr (.inr 500)), some (.inr (.inr 0)), some (.inr (.inr 92)), some (.inl i)] [] hh := by
  refine r_iload_n rfl rfl ?_
  refine r_aload_n rfl rfl ?_
  refine r_alen rfl ?_
  refine r_iconst 5 rfl (by decide) ?_
  refine r_isub rfl ?_
  refine r_icmpgt rfl (by omega) (by omega) (fun q => absurd q (by omega)) (fun _ => ?_)
  refine r_aload_n rfl rfl ?_
  refine r_iload_n rfl rfl ?_
  refine r_iaload rfl (by omega) hN ?_
  refine r_bipush 31 rfl (by decide) ?_
  refine r_iand rfl ?_
  generalize hx : yand (xs i.toNat).toInt 31 = x at *
  have hr := rng_yand (xs i.toNat).toInt 31
  rw [hx] at hr
  by_cases hd : x < 0 ∨ 25 ≤ x
  · exact r_tsw rfl (ytab_df hr hd) df
  by_cases h0 : x = 0
  · exact r_tsw (q := 148) rfl (by rw [h0]; rfl) (c0 h0)
  by_cases h1 : x = 1
  · exact r_tsw (q := 171) rfl (by rw [h1]; rfl) (c1 h1)
  by_cases h2 : x = 2
  · exact r_tsw (q := 204) rfl (by rw [h2]; rfl) (c2 h2)
  by_cases h3 : x = 3
  · exact r_tsw (q := 257) rfl (by rw [h3]; rfl) (c3 h3)
  by_cases h4 : x = 4
  · exact r_tsw (q := 290) rfl (by rw [h4]; rfl) (c4 h4)
  by_cases h5 : x = 5
  · exact r_tsw (q := 313) rfl (by rw [h5]; rfl) (c5 h5)
  by_cases h6 : x = 6
  · exact r_tsw (q := 326) rfl (by rw [h6]; rfl) (c6 h6)
  by_cases h7 : x = 7
  · exact r_tsw (q := 359) rfl (by rw [h7]; rfl) (c7 h7)
  by_cases h8 : x = 8
  · exact r_tsw (q := 372) rfl (by rw [h8]; rfl) (c8 h8)
  by_cases h9 : x = 9
  · exact r_tsw (q := 395) rfl (by rw [h9]; rfl) (c9 h9)
  by_cases h10 : x = 10
  · exact r_tsw (q := 418) rfl (by rw [h10]; rfl) (c10 h10)
  by_cases h11 : x = 11
  · exact r_tsw (q := 461) rfl (by rw [h11]; rfl) (c11 h11)
  by_cases h12 : x = 12
  · exact r_tsw (q := 504) rfl (by rw [h12]; rfl) (c12 h12)
  by_cases h13 : x = 13
  · exact r_tsw (q := 527) rfl (by rw [h13]; rfl) (c13 h13)
  by_cases h14 : x = 14
  · exact r_tsw (q := 550) rfl (by rw [h14]; rfl) (c14 h14)
  by_cases h15 : x = 15
  · exact r_tsw (q := 583) rfl (by rw [h15]; rfl) (c15 h15)
  by_cases h16 : x = 16
  · exact r_tsw (q := 616) rfl (by rw [h16]; rfl) (c16 h16)
  by_cases h17 : x = 17
  · exact r_tsw (q := 639) rfl (by rw [h17]; rfl) (c17 h17)
  by_cases h18 : x = 18
  · exact r_tsw (q := 702) rfl (by rw [h18]; rfl) (c18 h18)
  by_cases h19 : x = 19
  · exact r_tsw (q := 715) rfl (by rw [h19]; rfl) (c19 h19)
  by_cases h20 : x = 20
  · exact r_tsw (q := 738) rfl (by rw [h20]; rfl) (c20 h20)
  by_cases h21 : x = 21
  · exact r_tsw (q := 791) rfl (by rw [h21]; rfl) (c21 h21)
  by_cases h22 : x = 22
  · exact r_tsw (q := 824) rfl (by rw [h22]; rfl) (c22 h22)
  by_cases h23 : x = 23
  · exact r_tsw (q := 857) rfl (by rw [h23]; rfl) (c23 h23)
  by_cases h24 : x = 24
  · exact r_tsw (q := 880) rfl (by rw [h24]; rfl) (c24 h24)
  exact absurd hd (by omega)
theorem lw_end {i : Int} {hh : xH} (hi : 0 ≤ i ∧ i ≤ N ∧ N < i + 5) (hN : N ≤ 100000) (k : Q 1 hh) : LR b N xs kL_law d Q 18 [some (.inr (.inr 500)), some (.inr (.inr 0)), some (.inr (.inr 92)), some (.inl i)] [] hh := by
  refine r_iload_n rfl rfl ?_
  refine r_aload_n rfl rfl ?_
  refine r_alen rfl ?_
  refine r_iconst 5 rfl (by decide) ?_
  refine r_isub rfl ?_
  refine r_icmpgt rfl (by omega) (by omega) (fun _ => ?_) (fun q => absurd q (by omega))
  refine r_iconst 1 rfl (by decide) ?_
  exact r_ireturn rfl k
end LWK
