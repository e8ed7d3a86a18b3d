/-! THE START: the two constructors, run; the memory behind them -/
def small (h : xH) : Prop := h.length ≤ 600000 ∧ xz h ≤ 7302250
def ysz : yS → Nat
  | .inl (_, fs) => fs.length
  | .inr (_, n, _) => n
theorem yhp_len {M : yM} : ∀ (l : List yS) (o : Nat), (yhp M o l).length = l.length
  | [], _ => rfl
  | s :: r, o => by simp only [yhp, List.length_cons]; rw [yhp_len r (o + 1)]
theorem hp_len (M : yM) : (hp M).length = 113 := by
  unfold hp
  rw [yhp_len]
  rfl
theorem yhp_sz {M : yM} : ∀ (l : List yS) (o : Nat), xz (yhp M o l) = (l.map ysz).sum
  | [], _ => rfl
  | s :: r, o => by
    have h := yhp_sz (M := M) r (o + 1)
    unfold xz at h ⊢
    simp only [yhp, List.map_cons, List.sum_cons]
    rw [h]
    congr 1
    rcases s with ⟨ci, fs⟩ | ⟨kd, n, rs⟩
    · simp only [yob, xsz, ysz]; exact yfs_len fs 0
    · rfl
theorem small_hp (M : yM) : small (hp M) := by
  refine ⟨?_, ?_⟩
  · rw [hp_len]; omega
  · unfold hp
    rw [yhp_sz]
    decide +kernel
def rdM (h : xH) : yM := (fun o j => match h[o]? with
    | some (.inl (_, vs)) => (match vs[j.toNat]? with
      | some (.int v) => v
      | _ => 0)
    | some (.inr (_, _, .inl f)) => f j.toNat
    | _ => 0, fun o j => match h[o]? with
    | some (.inl (_, vs)) => (match vs[j.toNat]? with
      | some (.long v) => v
      | _ => 0)
    | some (.inr (_, _, .inr (.inl f))) => f j.toNat
    | _ => 0)
theorem shOKl_at : ∀ (l : List yS) (h : xH), shOKl l h = true → l.length = h.length ∧ ∀ (i : Nat) (s : yS), l[i]? = some s → ∃ o, h[i]? = some o ∧ shOKo s o = true
  | [], [], _ => ⟨rfl, fun i s q => by simp at q⟩
  | [], _ :: _, h => by cases h
  | _ :: _, [], h => by cases h
  | s :: r, o :: h, hq => by
    simp only [shOKl, Bool.and_eq_true] at hq
    obtain ⟨h1, h2⟩ := shOKl_at r h hq.2
    refine ⟨by simp only [List.length_cons, h1], fun i t q => ?_⟩
    cases i with
    | zero =>
      simp only [List.getElem?_cons_zero, Option.some.injEq] at q
      subst q
      exact ⟨o, rfl, hq.1⟩
    | succ i =>
      simp only [List.getElem?_cons_succ] at q
      simp only [List.getElem?_cons_succ]
      exact h2 i t q
theorem shOKf_yfs {M : yM} {o : Nat} : ∀ (fs : List (Nat × Nat)) (vs : List Value) (k : Nat), shOKf fs vs = true → (∀ (j : Nat) (v : Int32), vs[j]? = some (.int v) → M.1 o ((k + j : Nat) : Int) = v) → (∀ (j : Nat) (v : Int64), vs[j]? = some (.long v) → M.2 o ((k + j : Nat) : Int) = v) → yfs M o k fs = vs
  | [], [], _, _, _, _ => rfl
  | [], _ :: _, _, h, _, _ => by cases h
  | (n, q) :: r, [], _, h, _, _ => by
    unfold shOKf at h
    split at h <;> simp_all
  | (n, q) :: r, v :: vs, k, h, h1, h2 => by
    have hr : shOKf r vs = true ∧ yfv M o k (n, q) = v := by
      unfold shOKf at h
      split at h
      · next heq _ => cases heq
      · next e1 e2 =>
        cases e1; cases e2
        exact ⟨h, by have := h1 0 _ rfl; simp only [yfv]; rw [← this]; rfl⟩
      · next e1 e2 =>
        cases e1; cases e2
        exact ⟨h, by have := h2 0 _ rfl; simp only [yfv]; rw [← this]; rfl⟩
      · next e1 e2 =>
        cases e1; cases e2
        rw [Bool.and_eq_true, beq_iff_eq] at h
        exact ⟨h.2, by simp only [yfv]; rw [h.1]⟩
      · cases h
    have ih := shOKf_yfs (M := M) (o := o) r vs (k + 1) hr.1 (fun j w hw => by have := h1 (j + 1) w hw; rw [← this, show k + 1 + j = k + (j + 1) by omega]) (fun j w hw => by have := h2 (j + 1) w hw; rw [← this, show k + 1 + j = k + (j + 1) by omega])
    simp only [yfs]
    rw [hr.2, ih]
theorem xini_shape : shOKl shT xhI = true := by
  have h := xini
  unfold xini_ok at h
  simp only [Bool.and_eq_true] at h
  exact h.1.1.1.2
theorem rdM_1 {h : xH} {o : Nat} {c : Nat} {vs : List Value} (ho : h[o]? = some (.inl (c, vs))) (j : Nat) (v : Int32) (hv : vs[j]? = some (.int v)) : (rdM h).1 o (j : Int) = v := by
  simp only [rdM, ho, Int.toNat_natCast, hv]
theorem rdM_2 {h : xH} {o : Nat} {c : Nat} {vs : List Value} (ho : h[o]? = some (.inl (c, vs))) (j : Nat) (v : Int64) (hv : vs[j]? = some (.long v)) : (rdM h).2 o (j : Int) = v := by
  simp only [rdM, ho, Int.toNat_natCast, hv]
theorem rdM_3 {h : xH} {o k n : Nat} {f : Nat → Int32} (ho : h[o]? = some (.inr (k, n, .inl f))) : (fun j : Nat => (rdM h).1 o (j : Int)) = f := by
  funext j
  simp only [rdM, ho, Int.toNat_natCast]
theorem rdM_4 {h : xH} {o k n : Nat} {f : Nat → Int64} (ho : h[o]? = some (.inr (k, n, .inr (.inl f)))) : (fun j : Nat => (rdM h).2 o (j : Int)) = f := by
  funext j
  simp only [rdM, ho, Int.toNat_natCast]
theorem yob_rd {h : xH} (hF : ∀ (o k n : Nat) (f : Nat → Option Nat), h[o]? = some (.inr (k, n, .inr (.inr (.inr (.inr f))))) → xFr o = f) {i : Nat} {s : yS} {o : xO} (ho : h[i]? = some o) (hs : shOKo s o = true) : yob (rdM h) i s = o := by
  unfold shOKo at hs
  split at hs
  · rw [Bool.and_eq_true, beq_iff_eq] at hs
    obtain ⟨rfl, hs⟩ := hs
    simp only [yob]
    rw [shOKf_yfs _ _ 0 hs (fun j v hv => by rw [Nat.zero_add]; exact rdM_1 ho j v hv) (fun j v hv => by rw [Nat.zero_add]; exact rdM_2 ho j v hv)]
  · rw [beq_iff_eq] at hs
    subst hs
    simp only [yob, yct]
    rw [rdM_3 ho]
  · rw [beq_iff_eq] at hs
    subst hs
    simp only [yob, yct]
    rw [rdM_3 ho]
  · rw [beq_iff_eq] at hs
    subst hs
    simp only [yob, yct]
    rw [rdM_4 ho]
  · rw [beq_iff_eq] at hs
    subst hs
    simp only [yob, yct]
    rw [hF _ _ _ _ ho]
  · rw [beq_iff_eq] at hs
    subst hs
    simp only [yob, yct]
    rw [hF _ _ _ _ ho]
  · cases hs
theorem hp_rd {h : xH} (hF : ∀ (o k n : Nat) (f : Nat → Option Nat), h[o]? = some (.inr (k, n, .inr (.inr (.inr (.inr f))))) → xFr o = f) (hs : shOKl shT h = true) : hp (rdM h) = h := by
  obtain ⟨h1, h2⟩ := shOKl_at _ _ hs
  apply List.ext_getElem?
  intro i
  cases hs : shT[i]? with
  | none =>
    have hi : shT.length ≤ i := List.getElem?_eq_none_iff.mp hs
    rw [List.getElem?_eq_none (by rw [hp_len]; exact hi), List.getElem?_eq_none (by rw [← h1]; exact hi)]
  | some s =>
    obtain ⟨o, ho, hok⟩ := h2 i s hs
    rw [hp_at hs, ho, yob_rd hF ho hok]
theorem xFr_of {H : xH} (e : xhI = H) {o k n : Nat} {f : Nat → Option Nat} (ho : H[o]? = some (.inr (k, n, .inr (.inr (.inr (.inr f)))))) : xFr o = f := by
  subst e
  funext j
  unfold xFr
  rw [ho]
theorem xhI_def : ∃ H, xhI = H := ⟨_, rfl⟩
def M0 : yM := rdM xhI
theorem hp_M0 : hp M0 = xhI := by
  have hs := xini_shape
  unfold M0
  obtain ⟨H, e⟩ := xhI_def
  rw [e] at hs ⊢
  exact hp_rd (fun o k n f ho => xFr_of e ho) hs
theorem m0_nums : [(xhB1.length : Int), ld M0 1 0, ld M0 92 2, ld M0 19 0, ld M0 92 11, ld M0 7 0, ld M0 92 5, ld M0 77 1, ld M0 92 21, ldL M0 0 11, ldL M0 92 1, ld M0 92 0] = [92, 1, 1, 3, 3, 0, 0, 0, 0, 0, 0, 0] := by decide +kernel
theorem put_id {M : yM} {o : Nat} {k v : Int} (h : M.1 o k = Int32.ofInt v) : put M o k v = M := by
  refine Prod.ext ?_ rfl
  funext o' j
  rw [put_1]
  by_cases q : o' = o ∧ j = k
  · rw [if_pos q, q.1, q.2, h]
  · rw [if_neg q]
theorem m0_thr : put M0 92 0 0 = M0 := by
  have h := m0_nums
  simp only [List.cons.injEq, and_true] at h
  have h0 : M0.1 92 0 = Int32.ofInt 0 := by
    have := h.2.2.2.2.2.2.2.2.2.2.2
    unfold ld at this
    exact Int32.toInt_inj.mp (by rw [this]; rfl)
  exact put_id h0
theorem xI_1 : xI1 = some (none, xhB1) := by
  have h := xini
  unfold xini_ok at h
  simp only [Bool.and_eq_true] at h
  have h1 := h.1.1.1.1.1
  unfold xhB1
  cases hx : xI1 with
  | none => rw [hx] at h1; cases h1
  | some q =>
    obtain ⟨r, g⟩ := q
    rw [hx] at h1
    cases r with
    | none => rfl
    | some v => cases h1
theorem xI_2 : xI2 = some (none, xhI) := by
  have h := xini
  unfold xini_ok at h
  simp only [Bool.and_eq_true] at h
  have h1 := h.1.1.1.1.2
  unfold xhI
  cases hx : xI2 with
  | none => rw [hx] at h1; cases h1
  | some q =>
    obtain ⟨r, g⟩ := q
    rw [hx] at h1
    cases r with
    | none => rfl
    | some v => cases h1
theorem xhB1_len : xhB1.length = 92 := by
  have h := m0_nums
  simp only [List.cons.injEq, and_true] at h
  have := h.1
  omega
theorem init1 : RCv 40 83 [.inr (.inr 0)] [xnewO 11 12] (fun h => h = xhB1) :=
  ⟨(yX11_init, cX11_init, 4, none, 12, kX11_init), rfl, rfl, rfl, 200000, none, xhB1, xI_1, rfl, rfl, rfl⟩
theorem xrcv92 {h : xH} (hl : h.length = 92) : xrcv 13 (h ++ [xnewO 12 30]) [.ref 92] = true := by
  have e : (h ++ [xnewO 12 30])[92]? = some (xnewO 12 30) := by
    rw [List.getElem?_append_right (by omega), hl]
    rfl
  show (match ((h ++ [xnewO 12 30])[92]? : Option xO) with
    | some (Sum.inl (c, _)) => c == 12
    | _ => false) = true
  rw [e]
  rfl
theorem init2 : RCv 40 119 [.inr (.inr 92)] (xhB1 ++ [xnewO 12 30]) (fun h => h = xhI) :=
  ⟨(yX12_init, cX12_init, 1, none, 13, kX12_init), rfl, xrcv92 xhB1_len, rfl, 200000, none, xhI, xI_2, rfl, rfl, rfl⟩
theorem lw_start {b N : Nat} {xs : Nat → Int32} {Q : Int → xH → Prop} (k : LR b N xs kL_law 41 Q 18 [some (.inr (.inr 500)), some (.inr (.inr 0)), some (.inr (.inr 92)), some (.inl 0)] [] xhI) : LR b N xs kL_law 41 Q 0 [some (.inr (.inr 500)), none, none, none] [] [] := by
  refine r_new (r := 0) rfl rfl (by decide) ?_
  refine r_dupa rfl (by decide) ?_
  refine r_callv (args := [.inr (.inr 0)]) (S' := [.inr (.inr 0)]) rfl rfl rfl ?_
  refine RC.weak init1 (fun r h1 q => ?_)
  obtain ⟨e1, e2⟩ := q
  subst e1
  rw [e2]
  refine ⟨rfl, ?_⟩
  refine LR.step (pc' := 8) (L' := [some (.inr (.inr 500)), some (.inr (.inr 0)), none, none]) (S' := []) rfl rfl rfl rfl ?_
  refine r_new (r := 92) rfl xhB1_len (by decide) ?_
  refine r_dupa rfl (by decide) ?_
  refine r_callv (args := [.inr (.inr 92)]) (S' := [.inr (.inr 92)]) rfl rfl rfl ?_
  refine RC.weak init2 (fun r h1 q => ?_)
  obtain ⟨e1, e2⟩ := q
  subst e1
  rw [e2]
  refine ⟨rfl, ?_⟩
  refine LR.step (pc' := 16) (L' := [some (.inr (.inr 500)), some (.inr (.inr 0)), some (.inr (.inr 92)), none]) (S' := []) rfl rfl rfl rfl ?_
  refine r_iconst 0 rfl (by decide) ?_
  refine r_istore_n rfl (fun u q => by cases q) ?_
  exact k
/-! a call, run -/
def cI (k : Nat) (as : List Value) (h : xH) : Option (Option Value × xH) := match xP[k]? with
  | some Mm => bif xrcv Mm.2.2.2.2.1 h as && Nat.ble (as.map fun v => v.category).sum Mm.2.2.1 then (match xrun xty xP 200000 40 Mm.2.2.2.2.2 0 (xent Mm.2.2.1 as) [] h with
    | some (r, h') => bif xret Mm.2.2.2.1 r then some (r, h') else none
    | none => none) else none
  | none => none
theorem cI_ok {k : Nat} {as : List yV} {h h' : xH} {w : Int32} (he : cI k (as.map ycv) h = some (some (.int w), h')) : RCi 40 k as h (fun v g => v = w.toInt ∧ g = h') := by
  unfold cI at he
  cases hP : xP[k]? with
  | none => rw [hP] at he; cases he
  | some Mm =>
    rw [hP] at he
    dsimp only at he
    cases hb : (xrcv Mm.2.2.2.2.1 h (as.map ycv) && Nat.ble ((as.map ycv).map fun v => v.category).sum Mm.2.2.1) with
    | false => rw [hb] at he; cases he
    | true =>
      rw [hb, cond_true] at he
      rw [Bool.and_eq_true] at hb
      cases hx : xrun xty xP 200000 40 Mm.2.2.2.2.2 0 (xent Mm.2.2.1 (as.map ycv)) [] h with
      | none => rw [hx] at he; cases he
      | some q =>
        obtain ⟨r, g⟩ := q
        rw [hx] at he
        dsimp only at he
        cases hy : xret Mm.2.2.2.1 r with
        | false => rw [hy] at he; cases he
        | true =>
          rw [hy, cond_true] at he
          injection he with he
          injection he with h1 h2
          subst h1; subst h2
          refine ⟨Mm, hP, hb.1, hb.2, 200000, some (.inl w.toInt), g, ?_, ?_, w.toInt, rfl, rfl, rfl⟩
          · rw [hx]; show _ = some (some (Value.int (Int32.ofInt w.toInt)), g); rw [Int32.ofInt_toInt]
          · show xret _ (some (Value.int (Int32.ofInt w.toInt))) = true; rw [Int32.ofInt_toInt]; exact hy
def two (k1 k2 : Nat) (a1 a2 : List Value) (h : xH) : Bool := match cI k1 a1 h with
  | some (some (.int v), h1) => (match cI k2 a2 h1 with
    | some (some (.int w), h2) => decide (v = w) && Nat.ble h2.length 600000 && Nat.ble (xz h2) 7302250
    | _ => false)
  | _ => false
/-- a call of both, on the start -/
def P2 (k1 k2 : Nat) (a1 a2 : List yV) : Prop := RCi 40 k1 a1 xhI (fun v h1 => RCi 40 k2 a2 h1 (fun w h2 => v = w ∧ small h2))
theorem two_ok {k1 k2 : Nat} {a1 a2 : List yV} (h : two k1 k2 (a1.map ycv) (a2.map ycv) xhI = true) : P2 k1 k2 a1 a2 := by
  unfold two at h
  split at h
  · next v h1 e1 =>
    split at h
    · next w h2 e2 =>
      simp only [Bool.and_eq_true, decide_eq_true_eq] at h
      refine RC.weak (cI_ok e1) (fun r g q => ?_)
      obtain ⟨x, rfl, rfl, rfl⟩ := q
      refine ⟨_, rfl, ?_⟩
      refine RC.weak (cI_ok e2) (fun r g q => ?_)
      obtain ⟨x, rfl, rfl, rfl⟩ := q
      refine ⟨_, rfl, ?_, Nat.le_of_ble_eq_true h.1.2, Nat.le_of_ble_eq_true h.2⟩
      rw [h.1.1]
    · cases h
  · cases h
def tw (k1 k2 : Nat) (as : List Int) : Bool := two k1 k2 ((.inr (.inr 0) :: as.map .inl : List yV).map ycv) ((.inr (.inr 92) :: as.map .inl : List yV).map ycv) xhI
theorem tw_ok {k1 k2 : Nat} (as : List Int) (h : tw k1 k2 as = true) : P2 k1 k2 (.inr (.inr 0) :: as.map .inl) (.inr (.inr 92) :: as.map .inl) := two_ok h
theorem P2_bad {k1 k2 : Nat} {a1 a2 : List yV} (h1 : XCi 40 k1 a1 M0 (fun v M => v = -1 ∧ M = M0)) (h2 : XCi 40 k2 a2 M0 (fun v _ => v = -1)) : P2 k1 k2 a1 a2 := by
  unfold P2
  rw [← hp_M0]
  refine RCi.of h1 (fun v M q => ?_)
  obtain ⟨rfl, rfl⟩ := q
  refine RCi.of h2 (fun w M' q => ?_)
  subst q
  exact ⟨rfl, small_hp M'⟩
