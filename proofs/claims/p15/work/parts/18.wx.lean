/-! THE LAW'S FRAME OVER ANY HEAP -/
def RC (d k : Nat) (args : List yV) (hh : xH) (Q : Option yV → xH → Prop) : Prop :=
  ∃ Mm : xM, xP[k]? = some Mm ∧ xrcv Mm.2.2.2.2.1 hh (args.map ycv) = true ∧ Nat.ble ((args.map ycv).map fun v => v.category).sum Mm.2.2.1 = true ∧ ∃ (n : Nat) (r : Option yV) (h' : xH), xrun xty xP n d Mm.2.2.2.2.2 0 (xent Mm.2.2.1 (args.map ycv)) [] hh = some (r.map ycv, h') ∧ xret Mm.2.2.2.1 (r.map ycv) = true ∧ Q r h'
def vQi (Q : Int → xH → Prop) : Option yV → xH → Prop := fun r h => ∃ v, r = some (.inl v) ∧ Q v h
def vQl (Q : Int → xH → Prop) : Option yV → xH → Prop := fun r h => ∃ v, r = some (.inr (.inl v)) ∧ Q v h
def vQv (Q : xH → Prop) : Option yV → xH → Prop := fun r h => r = none ∧ Q h
def RCi (d k : Nat) (args : List yV) (hh : xH) (Q : Int → xH → Prop) : Prop := RC d k args hh (vQi Q)
def RCl (d k : Nat) (args : List yV) (hh : xH) (Q : Int → xH → Prop) : Prop := RC d k args hh (vQl Q)
def RCv (d k : Nat) (args : List yV) (hh : xH) (Q : xH → Prop) : Prop := RC d k args hh (vQv Q)
theorem RC.weak {d k : Nat} {args : List yV} {hh : xH} {Q Q' : Option yV → xH → Prop} (h : RC d k args hh Q) (hq : ∀ r h', Q r h' → Q' r h') : RC d k args hh Q' := by
  obtain ⟨Mm, h1, h2, h3, n, r, M', h4, h5, h6⟩ := h
  exact ⟨Mm, h1, h2, h3, n, r, M', h4, h5, hq _ _ h6⟩
theorem RC.of {d k : Nat} {args : List yV} {M : yM} {Q : Option yV → yM → Prop} {Q' : Option yV → xH → Prop} (h : XC d k args M Q) (hq : ∀ r M', Q r M' → Q' r (hp M')) : RC d k args (hp M) Q' := by
  obtain ⟨Mm, h1, h2, h3, n, r, M', h4, h5, h6⟩ := h
  exact ⟨Mm, h1, h2, h3, n, r, hp M', h4, h5, hq _ _ h6⟩
theorem RCi.of {d k : Nat} {args : List yV} {M : yM} {Q : Int → yM → Prop} {Q' : Int → xH → Prop} (h : XCi d k args M Q) (hq : ∀ v M', Q v M' → Q' v (hp M')) : RCi d k args (hp M) Q' :=
  RC.of h (fun r M' ⟨v, e, h⟩ => ⟨v, e, hq v M' h⟩)
theorem RCl.of {d k : Nat} {args : List yV} {M : yM} {Q : Int → yM → Prop} {Q' : Int → xH → Prop} (h : XCl d k args M Q) (hq : ∀ v M', Q v M' → Q' v (hp M')) : RCl d k args (hp M) Q' :=
  RC.of h (fun r M' ⟨v, e, h⟩ => ⟨v, e, hq v M' h⟩)
def LR (b N : Nat) (xs : Nat → Int32) (C : xC) (d : Nat) (Q : Int → xH → Prop) (pc : Nat) (L : yL) (S : List yV) (hh : xH) : Prop :=
  ∃ (n : Nat) (v : Int) (hh' : xH), lrun b N xs xP n d C pc (lcL b L) (lcS b S) hh = some (some (.int (Int32.ofInt v)), hh') ∧ Q v hh'
section YR2
variable {b N : Nat} {xs : Nat → Int32} {C : xC} {d : Nat} {Q : Int → xH → Prop} {pc : Nat} {L : yL} {S : List yV} {hh : xH}
theorem LR.step {I : xI} {pc' : Nat} {L' : yL} {S' : List yV} {hh' : xH} (hC : C pc = some I) (he : xend I.1 (lcS b S) = none) (hc : xcl I.1 I.2.2 (lcS b S) = none) (hd : ldo b N xs pc I.2.1 I.2.2 I.1 (lcL b L) (lcS b S) hh = some (.inl (pc', lcL b L', lcS b S', hh'))) (k : LR b N xs C d Q pc' L' S' hh') : LR b N xs C d Q pc L S hh := by
  obtain ⟨n, r, M2, h1, h3⟩ := k
  refine ⟨n + 1, r, M2, ?_, h3⟩
  unfold lrun
  simp only [hC, he, hc, hd]
  exact h1
theorem LR.call {I : xI} {k : Nat} {args S' : List yV} {v0 : Option yV → List yV} {Q1 : Option yV → xH → Prop} (hC : C pc = some I) (he : xend I.1 (lcS b S) = none) (hc : xcl I.1 I.2.2 (lcS b S) = some (k, args.map ycv, lcS b S')) (hk : RC d k args hh Q1) (hq : ∀ r hh', Q1 r hh' → (r.map ycv).toList = lcS b (v0 r) ∧ LR b N xs C (d + 1) Q (pc + 3) L (v0 r ++ S') hh') : LR b N xs C (d + 1) Q pc L S hh := by
  obtain ⟨Mm, hP, hrc, hcat, n, r, M1, h1, h2, h3⟩ := hk
  obtain ⟨e0, n2, r2, M2, g1, g3⟩ := hq _ _ h3
  refine ⟨max n n2 + 1, r2, M2, ?_, g3⟩
  unfold lrun
  simp only [hC, he, hc, hP, hrc, hcat, Bool.and_self, cond_true]
  rw [xrun_mono _ _ _ _ _ _ _ _ h1 (max n n2) d (Nat.le_max_left _ _) (Nat.le_refl _)]
  simp only [h2, cond_true]
  have e : (r.map ycv).toList ++ lcS b S' = lcS b (v0 r ++ S') := by rw [e0]; unfold lcS; rw [List.map_append]
  rw [e]
  exact lrun_mono _ _ _ _ _ _ _ _ g1 (max n n2) (d + 1) (Nat.le_max_right _ _) (Nat.le_refl _)
theorem r_calli {I : xI} {k : Nat} {args S' : List yV} (hC : C pc = some I) (he : xend I.1 (lcS b S) = none) (hc : xcl I.1 I.2.2 (lcS b S) = some (k, args.map ycv, lcS b S')) (hk : RCi d k args hh (fun v hh' => LR b N xs C (d + 1) Q (pc + 3) L (.inl v :: S') hh')) : LR b N xs C (d + 1) Q pc L S hh :=
  LR.call (v0 := fun r => r.toList) hC he hc hk (fun r hh' h => by obtain ⟨v, rfl, h⟩ := h; exact ⟨rfl, h⟩)
theorem r_calll {I : xI} {k : Nat} {args S' : List yV} (hC : C pc = some I) (he : xend I.1 (lcS b S) = none) (hc : xcl I.1 I.2.2 (lcS b S) = some (k, args.map ycv, lcS b S')) (hk : RCl d k args hh (fun v hh' => LR b N xs C (d + 1) Q (pc + 3) L (.inr (.inl v) :: S') hh')) : LR b N xs C (d + 1) Q pc L S hh :=
  LR.call (v0 := fun r => r.toList) hC he hc hk (fun r hh' h => by obtain ⟨v, rfl, h⟩ := h; exact ⟨rfl, h⟩)
theorem r_iconst {n : Int} {len : Nat} {w : Int32} {x y : Nat} (v : Int) (hC : C pc = some (.iconst n, len, .int w, x, y)) (hv : w = Int32.ofInt v) (k : LR b N xs C d Q (pc + len) L (.inl v :: S) hh) : LR b N xs C d Q pc L S hh :=
  LR.step hC rfl rfl (by subst hv; rfl) k
theorem r_bipush {n : Int} {len : Nat} {w : Int32} {x y : Nat} (v : Int) (hC : C pc = some (.bipush n, len, .int w, x, y)) (hv : w = Int32.ofInt v) (k : LR b N xs C d Q (pc + len) L (.inl v :: S) hh) : LR b N xs C d Q pc L S hh :=
  LR.step hC rfl rfl (by subst hv; rfl) k
theorem r_sipush {n : Int} {len : Nat} {w : Int32} {x y : Nat} (v : Int) (hC : C pc = some (.sipush n, len, .int w, x, y)) (hv : w = Int32.ofInt v) (k : LR b N xs C d Q (pc + len) L (.inl v :: S) hh) : LR b N xs C d Q pc L S hh :=
  LR.step hC rfl rfl (by subst hv; rfl) k
theorem r_lconst {n : Fin 2} {len : Nat} {w : Int64} {x y : Nat} (v : Int) (hC : C pc = some (.lconst n, len, .long w, x, y)) (hv : w = Int64.ofInt v) (k : LR b N xs C d Q (pc + len) L (.inr (.inl v) :: S) hh) : LR b N xs C d Q pc L S hh :=
  LR.step hC rfl rfl (by subst hv; rfl) k
theorem r_ldc2_w {n : Nat} {len : Nat} {w : Int64} {x y : Nat} (v : Int) (hC : C pc = some (.ldc2_w n, len, .long w, x, y)) (hv : w = Int64.ofInt v) (k : LR b N xs C d Q (pc + len) L (.inr (.inl v) :: S) hh) : LR b N xs C d Q pc L S hh :=
  LR.step hC rfl rfl (by subst hv; rfl) k
theorem r_iload {j : Nat} {len : Nat} {w : Value} {i z : Nat} {v : Int} (hC : C pc = some (.iload j, len, w, i, z)) (hL : L[i]? = some (some (.inl v))) (k : LR b N xs C d Q (pc + len) L (.inl v :: S) hh) : LR b N xs C d Q pc L S hh :=
  LR.step hC rfl rfl (by show xild (lcL b L) i (pc + len) (lcS b S) hh = _; unfold xild; rw [lcL_at hL]; rfl) k
theorem r_iload_n {j : Fin 4} {len : Nat} {w : Value} {i z : Nat} {v : Int} (hC : C pc = some (.iload_n j, len, w, i, z)) (hL : L[i]? = some (some (.inl v))) (k : LR b N xs C d Q (pc + len) L (.inl v :: S) hh) : LR b N xs C d Q pc L S hh :=
  LR.step hC rfl rfl (by show xild (lcL b L) i (pc + len) (lcS b S) hh = _; unfold xild; rw [lcL_at hL]; rfl) k
theorem r_aload_n {j : Fin 4} {len : Nat} {w : Value} {i z : Nat} {v : Nat} (hC : C pc = some (.aload_n j, len, w, i, z)) (hL : L[i]? = some (some (.inr (.inr v)))) (k : LR b N xs C d Q (pc + len) L (.inr (.inr v) :: S) hh) : LR b N xs C d Q pc L S hh :=
  LR.step hC rfl rfl (by
    have h := lcL_at (b := b) hL
    show (match (lcL b L)[i]? with
      | some (some (.retAddr k)) => xgo (pc + len) (lcL b L) (.retAddr k :: lcS b S) hh
      | _ => xald (lcL b L) i (pc + len) (lcS b S) hh) = _
    unfold xald
    rw [h]
    show _ = xgo (pc + len) (lcL b L) (lcv b (.inr (.inr v)) :: lcS b S) hh
    simp only [Option.map_some, lcv]
    by_cases h5 : v = 500
    · simp only [h5, if_true, xgo]
    · simp only [h5, if_false, xgo]) k
theorem r_iinc {j : Nat} {n : Int} {len : Nat} {w : Int32} {z : Nat} {x : Int} {a0 a1 a2 : Option yV} (v : Int) (hC : C pc = some (.iinc j n, len, .int w, 3, z)) (hv : w = Int32.ofInt v) (ha : ∀ u, a2 ≠ some (.inr (.inl u))) (k : LR b N xs C d Q (pc + len) [a0, a1, a2, some (.inl (x + v))] S hh) : LR b N xs C d Q pc [a0, a1, a2, some (.inl x)] S hh :=
  LR.step hC rfl rfl (by
    subst hv
    show xinc (lcL b [a0, a1, a2, some (.inl x)]) 3 (.int (Int32.ofInt v)) (pc + len) (lcS b S) hh = _
    unfold xinc xst1
    simp only [lcL, List.map_cons, List.map_nil, lcv, Option.map_some, List.getElem?_cons_succ, List.getElem?_cons_zero, Int32.ofInt_add]
    cases a2 with
    | none => rfl
    | some u =>
      rcases u with u | u | u
      · rfl
      · exact absurd rfl (ha u)
      · simp only [Option.map_some, lcv]
        by_cases h5 : u = 500
        · simp only [h5, if_true]; rfl
        · simp only [h5, if_false]; rfl) k
theorem r_istore_n {j : Fin 4} {len : Nat} {w : Value} {z : Nat} {x : Int} {a0 a1 a2 a3 : Option yV} (hC : C pc = some (.istore_n j, len, w, 3, z)) (ha : ∀ u, a2 ≠ some (.inr (.inl u))) (k : LR b N xs C d Q (pc + len) [a0, a1, a2, some (.inl x)] S hh) : LR b N xs C d Q pc [a0, a1, a2, a3] (.inl x :: S) hh :=
  LR.step hC rfl rfl (by
    show xist (lcL b [a0, a1, a2, a3]) 3 (pc + len) (.int (Int32.ofInt x) :: lcS b S) hh = _
    unfold xist xst1
    simp only [lcL, List.map_cons, List.map_nil, lcv, Option.map_some, List.getElem?_cons_succ, List.getElem?_cons_zero, List.length_cons, List.length_nil]
    rw [if_pos (by omega)]
    cases a2 with
    | none => rfl
    | some u =>
      rcases u with u | u | u
      · rfl
      · exact absurd rfl (ha u)
      · simp only [Option.map_some, lcv]
        by_cases h5 : u = 500
        · simp only [h5, if_true]; rfl
        · simp only [h5, if_false]; rfl) k
theorem r_iaload {a : xA} {j : Int} (hC : C pc = some (.iaload, 1, a)) (hj : 0 ≤ j ∧ j < N) (hN : N ≤ 100000) (k : LR b N xs C d Q (pc + 1) L (.inl (xs j.toNat).toInt :: S) hh) : LR b N xs C d Q pc L (.inl j :: .inr (.inr 500) :: S) hh :=
  LR.step hC rfl rfl (by
    have h1 := yix hj hN
    show (if b = b ∧ xin (Int32.ofInt j) N = true then xgo (pc + 1) (lcL b L) (.int (xs (Int32.ofInt j).toNatClampNeg) :: lcS b S) hh else none) = _
    rw [if_pos ⟨rfl, h1.1⟩, h1.2]
    show _ = xgo (pc + 1) (lcL b L) (.int (Int32.ofInt (xs j.toNat).toInt) :: lcS b S) hh
    rw [Int32.ofInt_toInt]) k
theorem r_alen {a : xA} (hC : C pc = some (.arraylength, 1, a)) (k : LR b N xs C d Q (pc + 1) L (.inl (N : Int) :: S) hh) : LR b N xs C d Q pc L (.inr (.inr 500) :: S) hh :=
  LR.step hC rfl rfl (by
    show (if b = b then xgo (pc + 1) (lcL b L) (.int (Int32.ofNat N) :: lcS b S) hh else none) = _
    rw [if_pos rfl]
    rfl) k
theorem r_iadd {a : xA} {x y : Int} (hC : C pc = some (.iadd, 1, a)) (k : LR b N xs C d Q (pc + 1) L (.inl (x + y) :: S) hh) : LR b N xs C d Q pc L (.inl y :: .inl x :: S) hh :=
  LR.step hC rfl rfl (by show xgo _ _ _ _ = xgo _ _ _ _; simp only [lcS, List.map_cons, lcv, Int32.ofInt_add]) k
theorem r_isub {a : xA} {x y : Int} (hC : C pc = some (.isub, 1, a)) (k : LR b N xs C d Q (pc + 1) L (.inl (x - y) :: S) hh) : LR b N xs C d Q pc L (.inl y :: .inl x :: S) hh :=
  LR.step hC rfl rfl (by show xgo _ _ _ _ = xgo _ _ _ _; simp only [lcS, List.map_cons, lcv, Int32.ofInt_sub]) k
theorem r_imul {a : xA} {x y : Int} (hC : C pc = some (.imul, 1, a)) (k : LR b N xs C d Q (pc + 1) L (.inl (x * y) :: S) hh) : LR b N xs C d Q pc L (.inl y :: .inl x :: S) hh :=
  LR.step hC rfl rfl (by show xgo _ _ _ _ = xgo _ _ _ _; simp only [lcS, List.map_cons, lcv, Int32.ofInt_mul]) k
theorem r_iand {a : xA} {x y : Int} (hC : C pc = some (.iand, 1, a)) (k : LR b N xs C d Q (pc + 1) L (.inl (yand x y) :: S) hh) : LR b N xs C d Q pc L (.inl y :: .inl x :: S) hh :=
  LR.step hC rfl rfl (by show xgo _ _ _ _ = xgo _ _ _ _; simp only [lcS, List.map_cons, lcv, yand, Int32.ofInt_toInt]) k
theorem r_ior {a : xA} {x y : Int} (hC : C pc = some (.ior, 1, a)) (k : LR b N xs C d Q (pc + 1) L (.inl (yor x y) :: S) hh) : LR b N xs C d Q pc L (.inl y :: .inl x :: S) hh :=
  LR.step hC rfl rfl (by show xgo _ _ _ _ = xgo _ _ _ _; simp only [lcS, List.map_cons, lcv, yor, Int32.ofInt_toInt]) k
theorem r_ixor {a : xA} {x y : Int} (hC : C pc = some (.ixor, 1, a)) (k : LR b N xs C d Q (pc + 1) L (.inl (yxor x y) :: S) hh) : LR b N xs C d Q pc L (.inl y :: .inl x :: S) hh :=
  LR.step hC rfl rfl (by show xgo _ _ _ _ = xgo _ _ _ _; simp only [lcS, List.map_cons, lcv, yxor, Int32.ofInt_toInt]) k
theorem r_ishl {a : xA} {x y : Int} (hC : C pc = some (.ishl, 1, a)) (k : LR b N xs C d Q (pc + 1) L (.inl (yshl x y) :: S) hh) : LR b N xs C d Q pc L (.inl y :: .inl x :: S) hh :=
  LR.step hC rfl rfl (by show xgo _ _ _ _ = xgo _ _ _ _; simp only [lcS, List.map_cons, lcv, yshl, Int32.ofInt_toInt]) k
theorem r_ishr {a : xA} {x y : Int} (hC : C pc = some (.ishr, 1, a)) (k : LR b N xs C d Q (pc + 1) L (.inl (yshr x y) :: S) hh) : LR b N xs C d Q pc L (.inl y :: .inl x :: S) hh :=
  LR.step hC rfl rfl (by show xgo _ _ _ _ = xgo _ _ _ _; simp only [lcS, List.map_cons, lcv, yshr, Int32.ofInt_toInt]) k
theorem r_land {a : xA} {x y : Int} (hC : C pc = some (.land, 1, a)) (k : LR b N xs C d Q (pc + 1) L (.inr (.inl (zand x y)) :: S) hh) : LR b N xs C d Q pc L (.inr (.inl y) :: .inr (.inl x) :: S) hh :=
  LR.step hC rfl rfl (by show xgo _ _ _ _ = xgo _ _ _ _; simp only [lcS, List.map_cons, lcv, zand, Int64.ofInt_toInt]) k
theorem r_lor {a : xA} {x y : Int} (hC : C pc = some (.lor, 1, a)) (k : LR b N xs C d Q (pc + 1) L (.inr (.inl (zor x y)) :: S) hh) : LR b N xs C d Q pc L (.inr (.inl y) :: .inr (.inl x) :: S) hh :=
  LR.step hC rfl rfl (by show xgo _ _ _ _ = xgo _ _ _ _; simp only [lcS, List.map_cons, lcv, zor, Int64.ofInt_toInt]) k
theorem r_lshl {a : xA} {x y : Int} (hC : C pc = some (.lshl, 1, a)) (k : LR b N xs C d Q (pc + 1) L (.inr (.inl (zshl x y)) :: S) hh) : LR b N xs C d Q pc L (.inl y :: .inr (.inl x) :: S) hh :=
  LR.step hC rfl rfl (by show xgo _ _ _ _ = xgo _ _ _ _; simp only [lcS, List.map_cons, lcv, zshl, Int64.ofInt_toInt]) k
theorem r_i2l {a : xA} {x : Int} (hC : C pc = some (.i2l, 1, a)) (hx : -2147483648 ≤ x ∧ x < 2147483648) (k : LR b N xs C d Q (pc + 1) L (.inr (.inl x) :: S) hh) : LR b N xs C d Q pc L (.inl x :: S) hh :=
  LR.step hC rfl rfl (by
    have h : (Int32.ofInt x).toInt64 = Int64.ofInt x := by
      apply Int64.toInt_inj.mp
      rw [Int32.toInt_toInt64, Int32.toInt_ofInt_of_le hx.1 hx.2, Int64.toInt_ofInt_of_le (by omega) (by omega)]
    show xgo _ _ _ _ = xgo _ _ _ _
    simp only [lcS, List.map_cons, lcv, h]) k
theorem r_lcmp {a : xA} {x y : Int} (hC : C pc = some (.lcmp, 1, a)) (k : LR b N xs C d Q (pc + 1) L (.inl (zcmp x y) :: S) hh) : LR b N xs C d Q pc L (.inr (.inl y) :: .inr (.inl x) :: S) hh :=
  LR.step hC rfl rfl (by show xgo _ _ _ _ = xgo _ _ _ _; simp only [lcS, List.map_cons, lcv, zcmp, Int32.ofInt_toInt]) k
theorem r_goto {off : Int} {v : Value} {tgt z : Nat} (hC : C pc = some (.goto off, 3, v, tgt, z)) (k : LR b N xs C d Q tgt L S hh) : LR b N xs C d Q pc L S hh :=
  LR.step hC rfl rfl rfl k
theorem r_tsw {a : xA} {df lo hi : Int} {offs : Array Int} {len : Nat} {x : Int} {q : Nat} (hC : C pc = some (.tableswitch df lo hi offs, len, a)) (hq : xtab (Int32.ofInt x) lo (offs.toList.map fun o => ((pc : Int) + o).toNat) ((pc : Int) + df).toNat = q) (k : LR b N xs C d Q q L S hh) : LR b N xs C d Q pc L (.inl x :: S) hh :=
  LR.step hC rfl rfl (by subst hq; rfl) k
theorem r_popi {a : xA} {x : Int} (hC : C pc = some (.pop, 1, a)) (k : LR b N xs C d Q (pc + 1) L S hh) : LR b N xs C d Q pc L (.inl x :: S) hh :=
  LR.step hC rfl rfl rfl k
theorem r_pop2 {a : xA} {x : Int} (hC : C pc = some (.pop2, 1, a)) (k : LR b N xs C d Q (pc + 1) L S hh) : LR b N xs C d Q pc L (.inr (.inl x) :: S) hh :=
  LR.step hC rfl rfl rfl k
theorem r_ireturn {a : xA} {x : Int} (hC : C pc = some (.ireturn, 1, a)) (hq : Q x hh) : LR b N xs C d Q pc L [.inl x] hh := by
  refine ⟨1, x, hh, ?_, hq⟩
  unfold lrun
  simp only [hC]
  rfl
theorem r_ifeq {off : Int} {v : Value} {tgt z : Nat} {x : Int} (hC : C pc = some (.ifCond .eq off, 3, v, tgt, z)) (hx : -2147483648 ≤ x ∧ x < 2147483648) (kt : x = 0 → LR b N xs C d Q tgt L S hh) (kf : x ≠ 0 → LR b N xs C d Q (pc + 3) L S hh) : LR b N xs C d Q pc L (.inl x :: S) hh := by
  have e := (yof_eq (y := 0) hx (by omega))
  by_cases h : x = 0
  · refine LR.step hC rfl rfl ?_ (kt h)
    show (if decide (Int32.ofInt x = Int32.ofInt 0) = true then xgo tgt _ _ _ else xgo (pc + 3) _ _ _) = xgo tgt _ _ _
    rw [if_pos (by rw [decide_eq_true_eq, e]; exact h)]; rfl
  · refine LR.step hC rfl rfl ?_ (kf (by omega))
    show (if decide (Int32.ofInt x = Int32.ofInt 0) = true then xgo tgt _ _ _ else xgo (pc + 3) _ _ _) = xgo (pc + 3) _ _ _
    rw [if_neg (by rw [decide_eq_true_eq, e]; exact h)]; rfl
theorem r_ifne {off : Int} {v : Value} {tgt z : Nat} {x : Int} (hC : C pc = some (.ifCond .ne off, 3, v, tgt, z)) (hx : -2147483648 ≤ x ∧ x < 2147483648) (kt : x ≠ 0 → LR b N xs C d Q tgt L S hh) (kf : x = 0 → LR b N xs C d Q (pc + 3) L S hh) : LR b N xs C d Q pc L (.inl x :: S) hh := by
  have e := (yof_eq (y := 0) hx (by omega))
  by_cases h : x ≠ 0
  · refine LR.step hC rfl rfl ?_ (kt h)
    show (if decide (¬ Int32.ofInt x = Int32.ofInt 0) = true then xgo tgt _ _ _ else xgo (pc + 3) _ _ _) = xgo tgt _ _ _
    rw [if_pos (by rw [decide_eq_true_eq, e]; exact h)]; rfl
  · refine LR.step hC rfl rfl ?_ (kf (by omega))
    show (if decide (¬ Int32.ofInt x = Int32.ofInt 0) = true then xgo tgt _ _ _ else xgo (pc + 3) _ _ _) = xgo (pc + 3) _ _ _
    rw [if_neg (by rw [decide_eq_true_eq, e]; exact h)]; rfl
theorem r_iflt {off : Int} {v : Value} {tgt z : Nat} {x : Int} (hC : C pc = some (.ifCond .lt off, 3, v, tgt, z)) (hx : -2147483648 ≤ x ∧ x < 2147483648) (kt : x < 0 → LR b N xs C d Q tgt L S hh) (kf : 0 ≤ x → LR b N xs C d Q (pc + 3) L S hh) : LR b N xs C d Q pc L (.inl x :: S) hh := by
  have e := (yof_lt (y := 0) hx (by omega))
  by_cases h : x < 0
  · refine LR.step hC rfl rfl ?_ (kt h)
    show (if decide (Int32.ofInt x < Int32.ofInt 0) = true then xgo tgt _ _ _ else xgo (pc + 3) _ _ _) = xgo tgt _ _ _
    rw [if_pos (by rw [decide_eq_true_eq, e]; exact h)]; rfl
  · refine LR.step hC rfl rfl ?_ (kf (by omega))
    show (if decide (Int32.ofInt x < Int32.ofInt 0) = true then xgo tgt _ _ _ else xgo (pc + 3) _ _ _) = xgo (pc + 3) _ _ _
    rw [if_neg (by rw [decide_eq_true_eq, e]; exact h)]; rfl
theorem r_ifge {off : Int} {v : Value} {tgt z : Nat} {x : Int} (hC : C pc = some (.ifCond .ge off, 3, v, tgt, z)) (hx : -2147483648 ≤ x ∧ x < 2147483648) (kt : 0 ≤ x → LR b N xs C d Q tgt L S hh) (kf : x < 0 → LR b N xs C d Q (pc + 3) L S hh) : LR b N xs C d Q pc L (.inl x :: S) hh := by
  have e := (yof_le (x := 0) (by omega) hx)
  by_cases h : 0 ≤ x
  · refine LR.step hC rfl rfl ?_ (kt h)
    show (if decide (Int32.ofInt 0 ≤ Int32.ofInt x) = true then xgo tgt _ _ _ else xgo (pc + 3) _ _ _) = xgo tgt _ _ _
    rw [if_pos (by rw [decide_eq_true_eq, e]; exact h)]; rfl
  · refine LR.step hC rfl rfl ?_ (kf (by omega))
    show (if decide (Int32.ofInt 0 ≤ Int32.ofInt x) = true then xgo tgt _ _ _ else xgo (pc + 3) _ _ _) = xgo (pc + 3) _ _ _
    rw [if_neg (by rw [decide_eq_true_eq, e]; exact h)]; rfl
theorem r_ifgt {off : Int} {v : Value} {tgt z : Nat} {x : Int} (hC : C pc = some (.ifCond .gt off, 3, v, tgt, z)) (hx : -2147483648 ≤ x ∧ x < 2147483648) (kt : 0 < x → LR b N xs C d Q tgt L S hh) (kf : x ≤ 0 → LR b N xs C d Q (pc + 3) L S hh) : LR b N xs C d Q pc L (.inl x :: S) hh := by
  have e := (yof_lt (x := 0) (by omega) hx)
  by_cases h : 0 < x
  · refine LR.step hC rfl rfl ?_ (kt h)
    show (if decide (Int32.ofInt 0 < Int32.ofInt x) = true then xgo tgt _ _ _ else xgo (pc + 3) _ _ _) = xgo tgt _ _ _
    rw [if_pos (by rw [decide_eq_true_eq, e]; exact h)]; rfl
  · refine LR.step hC rfl rfl ?_ (kf (by omega))
    show (if decide (Int32.ofInt 0 < Int32.ofInt x) = true then xgo tgt _ _ _ else xgo (pc + 3) _ _ _) = xgo (pc + 3) _ _ _
    rw [if_neg (by rw [decide_eq_true_eq, e]; exact h)]; rfl
theorem r_ifle {off : Int} {v : Value} {tgt z : Nat} {x : Int} (hC : C pc = some (.ifCond .le off, 3, v, tgt, z)) (hx : -2147483648 ≤ x ∧ x < 2147483648) (kt : x ≤ 0 → LR b N xs C d Q tgt L S hh) (kf : 0 < x → LR b N xs C d Q (pc + 3) L S hh) : LR b N xs C d Q pc L (.inl x :: S) hh := by
  have e := (yof_le (y := 0) hx (by omega))
  by_cases h : x ≤ 0
  · refine LR.step hC rfl rfl ?_ (kt h)
    show (if decide (Int32.ofInt x ≤ Int32.ofInt 0) = true then xgo tgt _ _ _ else xgo (pc + 3) _ _ _) = xgo tgt _ _ _
    rw [if_pos (by rw [decide_eq_true_eq, e]; exact h)]; rfl
  · refine LR.step hC rfl rfl ?_ (kf (by omega))
    show (if decide (Int32.ofInt x ≤ Int32.ofInt 0) = true then xgo tgt _ _ _ else xgo (pc + 3) _ _ _) = xgo (pc + 3) _ _ _
    rw [if_neg (by rw [decide_eq_true_eq, e]; exact h)]; rfl
theorem r_icmpeq {off : Int} {v : Value} {tgt z : Nat} {x y : Int} (hC : C pc = some (.if_icmp .eq off, 3, v, tgt, z)) (hx : -2147483648 ≤ x ∧ x < 2147483648) (hy : -2147483648 ≤ y ∧ y < 2147483648) (kt : x = y → LR b N xs C d Q tgt L S hh) (kf : x ≠ y → LR b N xs C d Q (pc + 3) L S hh) : LR b N xs C d Q pc L (.inl y :: .inl x :: S) hh := by
  have e := (yof_eq hx hy)
  by_cases h : x = y
  · refine LR.step hC rfl rfl ?_ (kt h)
    show (if decide (Int32.ofInt x = Int32.ofInt y) = true then xgo tgt _ _ _ else xgo (pc + 3) _ _ _) = xgo tgt _ _ _
    rw [if_pos (by rw [decide_eq_true_eq, e]; exact h)]; rfl
  · refine LR.step hC rfl rfl ?_ (kf (by omega))
    show (if decide (Int32.ofInt x = Int32.ofInt y) = true then xgo tgt _ _ _ else xgo (pc + 3) _ _ _) = xgo (pc + 3) _ _ _
    rw [if_neg (by rw [decide_eq_true_eq, e]; exact h)]; rfl
theorem r_icmpne {off : Int} {v : Value} {tgt z : Nat} {x y : Int} (hC : C pc = some (.if_icmp .ne off, 3, v, tgt, z)) (hx : -2147483648 ≤ x ∧ x < 2147483648) (hy : -2147483648 ≤ y ∧ y < 2147483648) (kt : x ≠ y → LR b N xs C d Q tgt L S hh) (kf : x = y → LR b N xs C d Q (pc + 3) L S hh) : LR b N xs C d Q pc L (.inl y :: .inl x :: S) hh := by
  have e := (yof_eq hx hy)
  by_cases h : x ≠ y
  · refine LR.step hC rfl rfl ?_ (kt h)
    show (if decide (¬ Int32.ofInt x = Int32.ofInt y) = true then xgo tgt _ _ _ else xgo (pc + 3) _ _ _) = xgo tgt _ _ _
    rw [if_pos (by rw [decide_eq_true_eq, e]; exact h)]; rfl
  · refine LR.step hC rfl rfl ?_ (kf (by omega))
    show (if decide (¬ Int32.ofInt x = Int32.ofInt y) = true then xgo tgt _ _ _ else xgo (pc + 3) _ _ _) = xgo (pc + 3) _ _ _
    rw [if_neg (by rw [decide_eq_true_eq, e]; exact h)]; rfl
theorem r_icmplt {off : Int} {v : Value} {tgt z : Nat} {x y : Int} (hC : C pc = some (.if_icmp .lt off, 3, v, tgt, z)) (hx : -2147483648 ≤ x ∧ x < 2147483648) (hy : -2147483648 ≤ y ∧ y < 2147483648) (kt : x < y → LR b N xs C d Q tgt L S hh) (kf : y ≤ x → LR b N xs C d Q (pc + 3) L S hh) : LR b N xs C d Q pc L (.inl y :: .inl x :: S) hh := by
  have e := (yof_lt hx hy)
  by_cases h : x < y
  · refine LR.step hC rfl rfl ?_ (kt h)
    show (if decide (Int32.ofInt x < Int32.ofInt y) = true then xgo tgt _ _ _ else xgo (pc + 3) _ _ _) = xgo tgt _ _ _
    rw [if_pos (by rw [decide_eq_true_eq, e]; exact h)]; rfl
  · refine LR.step hC rfl rfl ?_ (kf (by omega))
    show (if decide (Int32.ofInt x < Int32.ofInt y) = true then xgo tgt _ _ _ else xgo (pc + 3) _ _ _) = xgo (pc + 3) _ _ _
    rw [if_neg (by rw [decide_eq_true_eq, e]; exact h)]; rfl
theorem r_icmpge {off : Int} {v : Value} {tgt z : Nat} {x y : Int} (hC : C pc = some (.if_icmp .ge off, 3, v, tgt, z)) (hx : -2147483648 ≤ x ∧ x < 2147483648) (hy : -2147483648 ≤ y ∧ y < 2147483648) (kt : y ≤ x → LR b N xs C d Q tgt L S hh) (kf : x < y → LR b N xs C d Q (pc + 3) L S hh) : LR b N xs C d Q pc L (.inl y :: .inl x :: S) hh := by
  have e := (yof_le hy hx)
  by_cases h : y ≤ x
  · refine LR.step hC rfl rfl ?_ (kt h)
    show (if decide (Int32.ofInt y ≤ Int32.ofInt x) = true then xgo tgt _ _ _ else xgo (pc + 3) _ _ _) = xgo tgt _ _ _
    rw [if_pos (by rw [decide_eq_true_eq, e]; exact h)]; rfl
  · refine LR.step hC rfl rfl ?_ (kf (by omega))
    show (if decide (Int32.ofInt y ≤ Int32.ofInt x) = true then xgo tgt _ _ _ else xgo (pc + 3) _ _ _) = xgo (pc + 3) _ _ _
    rw [if_neg (by rw [decide_eq_true_eq, e]; exact h)]; rfl
theorem r_icmpgt {off : Int} {v : Value} {tgt z : Nat} {x y : Int} (hC : C pc = some (.if_icmp .gt off, 3, v, tgt, z)) (hx : -2147483648 ≤ x ∧ x < 2147483648) (hy : -2147483648 ≤ y ∧ y < 2147483648) (kt : y < x → LR b N xs C d Q tgt L S hh) (kf : x ≤ y → LR b N xs C d Q (pc + 3) L S hh) : LR b N xs C d Q pc L (.inl y :: .inl x :: S) hh := by
  have e := (yof_lt hy hx)
  by_cases h : y < x
  · refine LR.step hC rfl rfl ?_ (kt h)
    show (if decide (Int32.ofInt y < Int32.ofInt x) = true then xgo tgt _ _ _ else xgo (pc + 3) _ _ _) = xgo tgt _ _ _
    rw [if_pos (by rw [decide_eq_true_eq, e]; exact h)]; rfl
  · refine LR.step hC rfl rfl ?_ (kf (by omega))
    show (if decide (Int32.ofInt y < Int32.ofInt x) = true then xgo tgt _ _ _ else xgo (pc + 3) _ _ _) = xgo (pc + 3) _ _ _
    rw [if_neg (by rw [decide_eq_true_eq, e]; exact h)]; rfl
theorem r_icmple {off : Int} {v : Value} {tgt z : Nat} {x y : Int} (hC : C pc = some (.if_icmp .le off, 3, v, tgt, z)) (hx : -2147483648 ≤ x ∧ x < 2147483648) (hy : -2147483648 ≤ y ∧ y < 2147483648) (kt : x ≤ y → LR b N xs C d Q tgt L S hh) (kf : y < x → LR b N xs C d Q (pc + 3) L S hh) : LR b N xs C d Q pc L (.inl y :: .inl x :: S) hh := by
  have e := (yof_le hx hy)
  by_cases h : x ≤ y
  · refine LR.step hC rfl rfl ?_ (kt h)
    show (if decide (Int32.ofInt x ≤ Int32.ofInt y) = true then xgo tgt _ _ _ else xgo (pc + 3) _ _ _) = xgo tgt _ _ _
    rw [if_pos (by rw [decide_eq_true_eq, e]; exact h)]; rfl
  · refine LR.step hC rfl rfl ?_ (kf (by omega))
    show (if decide (Int32.ofInt x ≤ Int32.ofInt y) = true then xgo tgt _ _ _ else xgo (pc + 3) _ _ _) = xgo (pc + 3) _ _ _
    rw [if_neg (by rw [decide_eq_true_eq, e]; exact h)]; rfl
end YR2
theorem r_same {b N : Nat} {xs : Nat → Int32} {C : xC} {d : Nat} {Q : Int → xH → Prop} {pc : Nat} {L : yL} {S : List yV} {hh : xH} {off : Int} {v : Value} {tgt z : Nat} {x : Int} (hC : C pc = some (.if_icmp .eq off, 3, v, tgt, z)) (k : LR b N xs C d Q tgt L S hh) : LR b N xs C d Q pc L (.inl x :: .inl x :: S) hh := by
  refine LR.step hC rfl rfl ?_ k
  show (if decide (Int32.ofInt x = Int32.ofInt x) = true then xgo tgt _ _ _ else xgo (pc + 3) _ _ _) = xgo tgt _ _ _
  rw [if_pos (by simp)]; rfl
theorem lcv_ref {b r : Nat} (h : r ≠ 500) : lcv b (.inr (.inr r)) = .ref r := by
  show (if r = 500 then Value.retAddr b else Value.ref r) = _
  rw [if_neg h]
theorem zcmp_self (x : Int) : zcmp x x = 0 := by
  unfold zcmp lg_cmp
  simp
theorem r_callv {b N : Nat} {xs : Nat → Int32} {C : xC} {d : Nat} {Q : Int → xH → Prop} {pc : Nat} {L : yL} {S : List yV} {hh : xH} {I : xI} {k : Nat} {args S' : List yV} (hC : C pc = some I) (he : xend I.1 (lcS b S) = none) (hc : xcl I.1 I.2.2 (lcS b S) = some (k, args.map ycv, lcS b S')) (hk : RCv d k args hh (fun h' => LR b N xs C (d + 1) Q (pc + 3) L S' h')) : LR b N xs C (d + 1) Q pc L S hh :=
  LR.call (v0 := fun _ => []) hC he hc hk (fun r M' h => by obtain ⟨rfl, h⟩ := h; exact ⟨rfl, h⟩)
theorem r_new {b N : Nat} {xs : Nat → Int32} {C : xC} {d : Nat} {Q : Int → xH → Prop} {pc : Nat} {L : yL} {S : List yV} {hh : xH} {i : Nat} {v : Value} {ci n r : Nat} (hC : C pc = some (.new i, 3, v, ci, n)) (hr : hh.length = r) (hr5 : r ≠ 500) (k : LR b N xs C d Q (pc + 3) L (.inr (.inr r) :: S) (hh ++ [.inl (ci, (List.range n).map (fun k => xzero (xty ci k)))])) : LR b N xs C d Q pc L S hh :=
  LR.step hC rfl rfl (by
    subst hr
    show xgo (pc + 3) (lcL b L) (.ref hh.length :: lcS b S) _ = xgo (pc + 3) (lcL b L) (lcv b (.inr (.inr hh.length)) :: lcS b S) _
    rw [lcv_ref hr5]) k
theorem r_dupa {b N : Nat} {xs : Nat → Int32} {C : xC} {d : Nat} {Q : Int → xH → Prop} {pc : Nat} {L : yL} {S : List yV} {hh : xH} {a : xA} {x : Nat} (hC : C pc = some (.dup, 1, a)) (hx : x ≠ 500) (k : LR b N xs C d Q (pc + 1) L (.inr (.inr x) :: .inr (.inr x) :: S) hh) : LR b N xs C d Q pc L (.inr (.inr x) :: S) hh :=
  LR.step hC rfl rfl (by
    show xdo xty pc 1 a .dup (lcL b L) (lcv b (.inr (.inr x)) :: lcS b S) hh = xgo (pc + 1) (lcL b L) (lcv b (.inr (.inr x)) :: lcv b (.inr (.inr x)) :: lcS b S) hh
    rw [lcv_ref hx]
    rfl) k
