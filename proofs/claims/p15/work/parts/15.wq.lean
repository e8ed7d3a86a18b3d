/-! WHAT A RUN OF THE LAW COMES TO: the script is the object 500 -/
def lcv (b : Nat) : yV → Value
  | .inl v => .int (Int32.ofInt v)
  | .inr (.inl v) => .long (Int64.ofInt v)
  | .inr (.inr r) => if r = 500 then .retAddr b else .ref r
def lcL (b : Nat) (L : yL) : xL := L.map (Option.map (lcv b))
def lcS (b : Nat) (S : List yV) : List Value := S.map (lcv b)
theorem lcL_at {b : Nat} {L : yL} {i : Nat} {w : Option yV} (h : L[i]? = some w) : (lcL b L)[i]? = some (w.map (lcv b)) := by
  unfold lcL
  rw [List.getElem?_map, h]
  rfl
theorem lrun_mono {b N : Nat} {xs : Nat → Int32} {P : List xM} : ∀ (n d : Nat) (C : xC) (pc : Nat) (L : xL) (S : List Value) (h : xH) (r : Option Value × xH), lrun b N xs P n d C pc L S h = some r → ∀ n' d', n ≤ n' → d ≤ d' → lrun b N xs P n' d' C pc L S h = some r := by
  intro n
  induction n with
  | zero => intro d C pc L S h r hr; cases hr
  | succ n ih =>
    intro d C pc L S h r hr n' d' hn hd
    obtain ⟨k, rfl⟩ : ∃ k, n' = k + 1 := ⟨n' - 1, by omega⟩
    have hk : n ≤ k := by omega
    unfold lrun at hr ⊢
    cases hC : C pc with
    | none => rw [hC] at hr; cases hr
    | some I =>
      simp only [hC] at hr ⊢
      cases he : xend I.1 S with
      | some q => simp only [he] at hr ⊢; exact hr
      | none =>
        simp only [he] at hr ⊢
        cases hc : xcl I.1 I.2.2 S with
        | none =>
          simp only [hc] at hr ⊢
          cases hx : ldo b N xs pc I.2.1 I.2.2 I.1 L S h with
          | none => rw [hx] at hr; cases hr
          | some w =>
            rcases w with ⟨pc', L', S', h'⟩ | w
            · simp only [hx] at hr ⊢; exact ih _ _ _ _ _ _ _ hr _ _ hk hd
            · rw [hx] at hr; cases hr
        | some q =>
          simp only [hc] at hr ⊢
          cases d with
          | zero => cases hr
          | succ d =>
            obtain ⟨e, rfl⟩ : ∃ e, d' = e + 1 := ⟨d' - 1, by omega⟩
            dsimp only at hr ⊢
            cases hP : P[q.1]? with
            | none => rw [hP] at hr; cases hr
            | some Mm =>
              simp only [hP] at hr ⊢
              cases hb : (xrcv Mm.2.2.2.2.1 h q.2.1 && Nat.ble (q.2.1.map fun v => v.category).sum Mm.2.2.1) with
              | false => rw [hb] at hr; cases hr
              | true =>
                rw [hb, cond_true] at hr
                rw [cond_true]
                cases h1 : xrun xty P n d Mm.2.2.2.2.2 0 (xent Mm.2.2.1 q.2.1) [] h with
                | none => rw [h1] at hr; cases hr
                | some w =>
                  obtain ⟨r1, h2⟩ := w
                  rw [h1] at hr
                  rw [xrun_mono _ _ _ _ _ _ _ _ h1 k e hk (by omega)]
                  dsimp only at hr ⊢
                  cases hy : xret Mm.2.2.2.1 r1 with
                  | false => rw [hy] at hr; cases hr
                  | true =>
                    rw [hy, cond_true] at hr
                    rw [cond_true]
                    exact ih _ _ _ _ _ _ _ hr k (e + 1) hk (by omega)
def LW (b N : Nat) (xs : Nat → Int32) (C : xC) (d : Nat) (Q : Int → yM → Prop) (pc : Nat) (L : yL) (S : List yV) (M : yM) : Prop :=
  ∃ (n : Nat) (v : Int) (M' : yM), lrun b N xs xP n d C pc (lcL b L) (lcS b S) (hp M) = some (some (.int (Int32.ofInt v)), hp M') ∧ Q v M'
section YL
variable {b N : Nat} {xs : Nat → Int32} {C : xC} {d : Nat} {Q : Int → yM → Prop} {pc : Nat} {L : yL} {S : List yV} {M : yM}
theorem LW.step {I : xI} {pc' : Nat} {L' : yL} {S' : List yV} {M' : yM} (hC : C pc = some I) (he : xend I.1 (lcS b S) = none) (hc : xcl I.1 I.2.2 (lcS b S) = none) (hd : ldo b N xs pc I.2.1 I.2.2 I.1 (lcL b L) (lcS b S) (hp M) = some (.inl (pc', lcL b L', lcS b S', hp M'))) (k : LW b N xs C d Q pc' L' S' M') : LW b N xs C d Q pc L S M := by
  obtain ⟨n, r, M2, h1, h3⟩ := k
  refine ⟨n + 1, r, M2, ?_, h3⟩
  unfold lrun
  simp only [hC, he, hc, hd]
  exact h1
theorem LW.call {I : xI} {k : Nat} {args S' : List yV} {v0 : Option yV → List yV} {Q1 : Option yV → yM → Prop} (hC : C pc = some I) (he : xend I.1 (lcS b S) = none) (hc : xcl I.1 I.2.2 (lcS b S) = some (k, args.map ycv, lcS b S')) (hk : XC d k args M Q1) (hq : ∀ r M', Q1 r M' → (r.map ycv).toList = lcS b (v0 r) ∧ LW b N xs C (d + 1) Q (pc + 3) L (v0 r ++ S') M') : LW b N xs C (d + 1) Q pc L S M := by
  obtain ⟨Mm, hP, hrc, hcat, n, r, M1, h1, h2, h3⟩ := hk
  obtain ⟨e0, n2, r2, M2, g1, g3⟩ := hq _ _ h3
  refine ⟨max n n2 + 1, r2, M2, ?_, g3⟩
  unfold lrun
  simp only [hC, he, hc, hP, hrc, hcat, Bool.and_self, cond_true]
  rw [xrun_mono _ _ _ _ _ _ _ _ h1 (max n n2) d (Nat.le_max_left _ _) (Nat.le_refl _)]
  simp only [h2, cond_true]
  have e : (r.map ycv).toList ++ lcS b S' = lcS b (v0 r ++ S') := by rw [e0]; unfold lcS; rw [List.map_append]
  rw [e]
  exact lrun_mono _ _ _ _ _ _ _ _ g1 (max n n2) (d + 1) (Nat.le_max_right _ _) (Nat.le_refl _)
theorem l_calli {I : xI} {k : Nat} {args S' : List yV} (hC : C pc = some I) (he : xend I.1 (lcS b S) = none) (hc : xcl I.1 I.2.2 (lcS b S) = some (k, args.map ycv, lcS b S')) (hk : XCi d k args M (fun v M' => LW b N xs C (d + 1) Q (pc + 3) L (.inl v :: S') M')) : LW b N xs C (d + 1) Q pc L S M :=
  LW.call (v0 := fun r => r.toList) hC he hc hk (fun r M' h => by obtain ⟨v, rfl, h⟩ := h; exact ⟨rfl, h⟩)
theorem l_calll {I : xI} {k : Nat} {args S' : List yV} (hC : C pc = some I) (he : xend I.1 (lcS b S) = none) (hc : xcl I.1 I.2.2 (lcS b S) = some (k, args.map ycv, lcS b S')) (hk : XCl d k args M (fun v M' => LW b N xs C (d + 1) Q (pc + 3) L (.inr (.inl v) :: S') M')) : LW b N xs C (d + 1) Q pc L S M :=
  LW.call (v0 := fun r => r.toList) hC he hc hk (fun r M' h => by obtain ⟨v, rfl, h⟩ := h; exact ⟨rfl, h⟩)
theorem l_iconst {n : Int} {len : Nat} {w : Int32} {x y : Nat} (v : Int) (hC : C pc = some (.iconst n, len, .int w, x, y)) (hv : w = Int32.ofInt v) (k : LW b N xs C d Q (pc + len) L (.inl v :: S) M) : LW b N xs C d Q pc L S M :=
  LW.step hC rfl rfl (by subst hv; rfl) k
theorem l_bipush {n : Int} {len : Nat} {w : Int32} {x y : Nat} (v : Int) (hC : C pc = some (.bipush n, len, .int w, x, y)) (hv : w = Int32.ofInt v) (k : LW b N xs C d Q (pc + len) L (.inl v :: S) M) : LW b N xs C d Q pc L S M :=
  LW.step hC rfl rfl (by subst hv; rfl) k
theorem l_sipush {n : Int} {len : Nat} {w : Int32} {x y : Nat} (v : Int) (hC : C pc = some (.sipush n, len, .int w, x, y)) (hv : w = Int32.ofInt v) (k : LW b N xs C d Q (pc + len) L (.inl v :: S) M) : LW b N xs C d Q pc L S M :=
  LW.step hC rfl rfl (by subst hv; rfl) k
theorem l_lconst {n : Fin 2} {len : Nat} {w : Int64} {x y : Nat} (v : Int) (hC : C pc = some (.lconst n, len, .long w, x, y)) (hv : w = Int64.ofInt v) (k : LW b N xs C d Q (pc + len) L (.inr (.inl v) :: S) M) : LW b N xs C d Q pc L S M :=
  LW.step hC rfl rfl (by subst hv; rfl) k
theorem l_ldc2_w {n : Nat} {len : Nat} {w : Int64} {x y : Nat} (v : Int) (hC : C pc = some (.ldc2_w n, len, .long w, x, y)) (hv : w = Int64.ofInt v) (k : LW b N xs C d Q (pc + len) L (.inr (.inl v) :: S) M) : LW b N xs C d Q pc L S M :=
  LW.step hC rfl rfl (by subst hv; rfl) k
theorem l_iload {j : Nat} {len : Nat} {w : Value} {i z : Nat} {v : Int} (hC : C pc = some (.iload j, len, w, i, z)) (hL : L[i]? = some (some (.inl v))) (k : LW b N xs C d Q (pc + len) L (.inl v :: S) M) : LW b N xs C d Q pc L S M :=
  LW.step hC rfl rfl (by show xild (lcL b L) i (pc + len) (lcS b S) (hp M) = _; unfold xild; rw [lcL_at hL]; rfl) k
theorem l_iload_n {j : Fin 4} {len : Nat} {w : Value} {i z : Nat} {v : Int} (hC : C pc = some (.iload_n j, len, w, i, z)) (hL : L[i]? = some (some (.inl v))) (k : LW b N xs C d Q (pc + len) L (.inl v :: S) M) : LW b N xs C d Q pc L S M :=
  LW.step hC rfl rfl (by show xild (lcL b L) i (pc + len) (lcS b S) (hp M) = _; unfold xild; rw [lcL_at hL]; rfl) k
theorem l_aload_n {j : Fin 4} {len : Nat} {w : Value} {i z : Nat} {v : Nat} (hC : C pc = some (.aload_n j, len, w, i, z)) (hL : L[i]? = some (some (.inr (.inr v)))) (k : LW b N xs C d Q (pc + len) L (.inr (.inr v) :: S) M) : LW b N xs C d Q pc L S M :=
  LW.step hC rfl rfl (by
    have h := lcL_at (b := b) hL
    show (match (lcL b L)[i]? with
      | some (some (.retAddr k)) => xgo (pc + len) (lcL b L) (.retAddr k :: lcS b S) (hp M)
      | _ => xald (lcL b L) i (pc + len) (lcS b S) (hp M)) = _
    unfold xald
    rw [h]
    show _ = xgo (pc + len) (lcL b L) (lcv b (.inr (.inr v)) :: lcS b S) (hp M)
    simp only [Option.map_some, lcv]
    by_cases h5 : v = 500
    · simp only [h5, if_true, xgo]
    · simp only [h5, if_false, xgo]) k
theorem l_iinc {j : Nat} {n : Int} {len : Nat} {w : Int32} {z : Nat} {x : Int} {a0 a1 a2 : Option yV} (v : Int) (hC : C pc = some (.iinc j n, len, .int w, 3, z)) (hv : w = Int32.ofInt v) (ha : ∀ u, a2 ≠ some (.inr (.inl u))) (k : LW b N xs C d Q (pc + len) [a0, a1, a2, some (.inl (x + v))] S M) : LW b N xs C d Q pc [a0, a1, a2, some (.inl x)] S M :=
  LW.step hC rfl rfl (by
    subst hv
    show xinc (lcL b [a0, a1, a2, some (.inl x)]) 3 (.int (Int32.ofInt v)) (pc + len) (lcS b S) (hp M) = _
    unfold xinc xst1
    simp only [lcL, List.map_cons, List.map_nil, lcv, Option.map_some, List.getElem?_cons_succ, List.getElem?_cons_zero, Int32.ofInt_add]
    cases a2 with
    | none => rfl
    | some u =>
      rcases u with u | u | u
      · rfl
      · exact absurd rfl (ha u)
      · simp only [Option.map_some, lcv]
        by_cases h5 : u = 500
        · simp only [h5, if_true]; rfl
        · simp only [h5, if_false]; rfl) k
theorem l_istore_n {j : Fin 4} {len : Nat} {w : Value} {z : Nat} {x : Int} {a0 a1 a2 a3 : Option yV} (hC : C pc = some (.istore_n j, len, w, 3, z)) (ha : ∀ u, a2 ≠ some (.inr (.inl u))) (k : LW b N xs C d Q (pc + len) [a0, a1, a2, some (.inl x)] S M) : LW b N xs C d Q pc [a0, a1, a2, a3] (.inl x :: S) M :=
  LW.step hC rfl rfl (by
    show xist (lcL b [a0, a1, a2, a3]) 3 (pc + len) (.int (Int32.ofInt x) :: lcS b S) (hp M) = _
    unfold xist xst1
    simp only [lcL, List.map_cons, List.map_nil, lcv, Option.map_some, List.getElem?_cons_succ, List.getElem?_cons_zero, List.length_cons, List.length_nil]
    rw [if_pos (by omega)]
    cases a2 with
    | none => rfl
    | some u =>
      rcases u with u | u | u
      · rfl
      · exact absurd rfl (ha u)
      · simp only [Option.map_some, lcv]
        by_cases h5 : u = 500
        · simp only [h5, if_true]; rfl
        · simp only [h5, if_false]; rfl) k
theorem l_iaload {a : xA} {j : Int} (hC : C pc = some (.iaload, 1, a)) (hj : 0 ≤ j ∧ j < N) (hN : N ≤ 100000) (k : LW b N xs C d Q (pc + 1) L (.inl (xs j.toNat).toInt :: S) M) : LW b N xs C d Q pc L (.inl j :: .inr (.inr 500) :: S) M :=
  LW.step hC rfl rfl (by
    have h1 := yix hj hN
    show (if b = b ∧ xin (Int32.ofInt j) N = true then xgo (pc + 1) (lcL b L) (.int (xs (Int32.ofInt j).toNatClampNeg) :: lcS b S) (hp M) else none) = _
    rw [if_pos ⟨rfl, h1.1⟩, h1.2]
    show _ = xgo (pc + 1) (lcL b L) (.int (Int32.ofInt (xs j.toNat).toInt) :: lcS b S) (hp M)
    rw [Int32.ofInt_toInt]) k
theorem l_alen {a : xA} (hC : C pc = some (.arraylength, 1, a)) (k : LW b N xs C d Q (pc + 1) L (.inl (N : Int) :: S) M) : LW b N xs C d Q pc L (.inr (.inr 500) :: S) M :=
  LW.step hC rfl rfl (by
    show (if b = b then xgo (pc + 1) (lcL b L) (.int (Int32.ofNat N) :: lcS b S) (hp M) else none) = _
    rw [if_pos rfl]
    rfl) k
theorem l_iadd {a : xA} {x y : Int} (hC : C pc = some (.iadd, 1, a)) (k : LW b N xs C d Q (pc + 1) L (.inl (x + y) :: S) M) : LW b N xs C d Q pc L (.inl y :: .inl x :: S) M :=
  LW.step hC rfl rfl (by show xgo _ _ _ _ = xgo _ _ _ _; simp only [lcS, List.map_cons, lcv, Int32.ofInt_add]) k
theorem l_isub {a : xA} {x y : Int} (hC : C pc = some (.isub, 1, a)) (k : LW b N xs C d Q (pc + 1) L (.inl (x - y) :: S) M) : LW b N xs C d Q pc L (.inl y :: .inl x :: S) M :=
  LW.step hC rfl rfl (by show xgo _ _ _ _ = xgo _ _ _ _; simp only [lcS, List.map_cons, lcv, Int32.ofInt_sub]) k
theorem l_imul {a : xA} {x y : Int} (hC : C pc = some (.imul, 1, a)) (k : LW b N xs C d Q (pc + 1) L (.inl (x * y) :: S) M) : LW b N xs C d Q pc L (.inl y :: .inl x :: S) M :=
  LW.step hC rfl rfl (by show xgo _ _ _ _ = xgo _ _ _ _; simp only [lcS, List.map_cons, lcv, Int32.ofInt_mul]) k
theorem l_iand {a : xA} {x y : Int} (hC : C pc = some (.iand, 1, a)) (k : LW b N xs C d Q (pc + 1) L (.inl (yand x y) :: S) M) : LW b N xs C d Q pc L (.inl y :: .inl x :: S) M :=
  LW.step hC rfl rfl (by show xgo _ _ _ _ = xgo _ _ _ _; simp only [lcS, List.map_cons, lcv, yand, Int32.ofInt_toInt]) k
theorem l_ior {a : xA} {x y : Int} (hC : C pc = some (.ior, 1, a)) (k : LW b N xs C d Q (pc + 1) L (.inl (yor x y) :: S) M) : LW b N xs C d Q pc L (.inl y :: .inl x :: S) M :=
  LW.step hC rfl rfl (by show xgo _ _ _ _ = xgo _ _ _ _; simp only [lcS, List.map_cons, lcv, yor, Int32.ofInt_toInt]) k
theorem l_ixor {a : xA} {x y : Int} (hC : C pc = some (.ixor, 1, a)) (k : LW b N xs C d Q (pc + 1) L (.inl (yxor x y) :: S) M) : LW b N xs C d Q pc L (.inl y :: .inl x :: S) M :=
  LW.step hC rfl rfl (by show xgo _ _ _ _ = xgo _ _ _ _; simp only [lcS, List.map_cons, lcv, yxor, Int32.ofInt_toInt]) k
theorem l_ishl {a : xA} {x y : Int} (hC : C pc = some (.ishl, 1, a)) (k : LW b N xs C d Q (pc + 1) L (.inl (yshl x y) :: S) M) : LW b N xs C d Q pc L (.inl y :: .inl x :: S) M :=
  LW.step hC rfl rfl (by show xgo _ _ _ _ = xgo _ _ _ _; simp only [lcS, List.map_cons, lcv, yshl, Int32.ofInt_toInt]) k
theorem l_ishr {a : xA} {x y : Int} (hC : C pc = some (.ishr, 1, a)) (k : LW b N xs C d Q (pc + 1) L (.inl (yshr x y) :: S) M) : LW b N xs C d Q pc L (.inl y :: .inl x :: S) M :=
  LW.step hC rfl rfl (by show xgo _ _ _ _ = xgo _ _ _ _; simp only [lcS, List.map_cons, lcv, yshr, Int32.ofInt_toInt]) k
theorem l_land {a : xA} {x y : Int} (hC : C pc = some (.land, 1, a)) (k : LW b N xs C d Q (pc + 1) L (.inr (.inl (zand x y)) :: S) M) : LW b N xs C d Q pc L (.inr (.inl y) :: .inr (.inl x) :: S) M :=
  LW.step hC rfl rfl (by show xgo _ _ _ _ = xgo _ _ _ _; simp only [lcS, List.map_cons, lcv, zand, Int64.ofInt_toInt]) k
theorem l_lor {a : xA} {x y : Int} (hC : C pc = some (.lor, 1, a)) (k : LW b N xs C d Q (pc + 1) L (.inr (.inl (zor x y)) :: S) M) : LW b N xs C d Q pc L (.inr (.inl y) :: .inr (.inl x) :: S) M :=
  LW.step hC rfl rfl (by show xgo _ _ _ _ = xgo _ _ _ _; simp only [lcS, List.map_cons, lcv, zor, Int64.ofInt_toInt]) k
theorem l_lshl {a : xA} {x y : Int} (hC : C pc = some (.lshl, 1, a)) (k : LW b N xs C d Q (pc + 1) L (.inr (.inl (zshl x y)) :: S) M) : LW b N xs C d Q pc L (.inl y :: .inr (.inl x) :: S) M :=
  LW.step hC rfl rfl (by show xgo _ _ _ _ = xgo _ _ _ _; simp only [lcS, List.map_cons, lcv, zshl, Int64.ofInt_toInt]) k
theorem l_i2l {a : xA} {x : Int} (hC : C pc = some (.i2l, 1, a)) (hx : -2147483648 ≤ x ∧ x < 2147483648) (k : LW b N xs C d Q (pc + 1) L (.inr (.inl x) :: S) M) : LW b N xs C d Q pc L (.inl x :: S) M :=
  LW.step hC rfl rfl (by
    have h : (Int32.ofInt x).toInt64 = Int64.ofInt x := by
      apply Int64.toInt_inj.mp
      rw [Int32.toInt_toInt64, Int32.toInt_ofInt_of_le hx.1 hx.2, Int64.toInt_ofInt_of_le (by omega) (by omega)]
    show xgo _ _ _ _ = xgo _ _ _ _
    simp only [lcS, List.map_cons, lcv, h]) k
theorem l_lcmp {a : xA} {x y : Int} (hC : C pc = some (.lcmp, 1, a)) (k : LW b N xs C d Q (pc + 1) L (.inl (zcmp x y) :: S) M) : LW b N xs C d Q pc L (.inr (.inl y) :: .inr (.inl x) :: S) M :=
  LW.step hC rfl rfl (by show xgo _ _ _ _ = xgo _ _ _ _; simp only [lcS, List.map_cons, lcv, zcmp, Int32.ofInt_toInt]) k
theorem l_goto {off : Int} {v : Value} {tgt z : Nat} (hC : C pc = some (.goto off, 3, v, tgt, z)) (k : LW b N xs C d Q tgt L S M) : LW b N xs C d Q pc L S M :=
  LW.step hC rfl rfl rfl k
theorem l_tsw {a : xA} {df lo hi : Int} {offs : Array Int} {len : Nat} {x : Int} {q : Nat} (hC : C pc = some (.tableswitch df lo hi offs, len, a)) (hq : xtab (Int32.ofInt x) lo (offs.toList.map fun o => ((pc : Int) + o).toNat) ((pc : Int) + df).toNat = q) (k : LW b N xs C d Q q L S M) : LW b N xs C d Q pc L (.inl x :: S) M :=
  LW.step hC rfl rfl (by subst hq; rfl) k
theorem l_popi {a : xA} {x : Int} (hC : C pc = some (.pop, 1, a)) (k : LW b N xs C d Q (pc + 1) L S M) : LW b N xs C d Q pc L (.inl x :: S) M :=
  LW.step hC rfl rfl rfl k
theorem l_pop2 {a : xA} {x : Int} (hC : C pc = some (.pop2, 1, a)) (k : LW b N xs C d Q (pc + 1) L S M) : LW b N xs C d Q pc L (.inr (.inl x) :: S) M :=
  LW.step hC rfl rfl rfl k
theorem l_ireturn {a : xA} {x : Int} (hC : C pc = some (.ireturn, 1, a)) (hq : Q x M) : LW b N xs C d Q pc L [.inl x] M := by
  refine ⟨1, x, M, ?_, hq⟩
  unfold lrun
  simp only [hC]
  rfl
theorem l_ifeq {off : Int} {v : Value} {tgt z : Nat} {x : Int} (hC : C pc = some (.ifCond .eq off, 3, v, tgt, z)) (hx : -2147483648 ≤ x ∧ x < 2147483648) (kt : x = 0 → LW b N xs C d Q tgt L S M) (kf : x ≠ 0 → LW b N xs C d Q (pc + 3) L S M) : LW b N xs C d Q pc L (.inl x :: S) M := by
  have e := (yof_eq (y := 0) hx (by omega))
  by_cases h : x = 0
  · refine LW.step hC rfl rfl ?_ (kt h)
    show (if decide (Int32.ofInt x = Int32.ofInt 0) = true then xgo tgt _ _ _ else xgo (pc + 3) _ _ _) = xgo tgt _ _ _
    rw [if_pos (by rw [decide_eq_true_eq, e]; exact h)]; rfl
  · refine LW.step hC rfl rfl ?_ (kf (by omega))
    show (if decide (Int32.ofInt x = Int32.ofInt 0) = true then xgo tgt _ _ _ else xgo (pc + 3) _ _ _) = xgo (pc + 3) _ _ _
    rw [if_neg (by rw [decide_eq_true_eq, e]; exact h)]; rfl
theorem l_ifne {off : Int} {v : Value} {tgt z : Nat} {x : Int} (hC : C pc = some (.ifCond .ne off, 3, v, tgt, z)) (hx : -2147483648 ≤ x ∧ x < 2147483648) (kt : x ≠ 0 → LW b N xs C d Q tgt L S M) (kf : x = 0 → LW b N xs C d Q (pc + 3) L S M) : LW b N xs C d Q pc L (.inl x :: S) M := by
  have e := (yof_eq (y := 0) hx (by omega))
  by_cases h : x ≠ 0
  · refine LW.step hC rfl rfl ?_ (kt h)
    show (if decide (¬ Int32.ofInt x = Int32.ofInt 0) = true then xgo tgt _ _ _ else xgo (pc + 3) _ _ _) = xgo tgt _ _ _
    rw [if_pos (by rw [decide_eq_true_eq, e]; exact h)]; rfl
  · refine LW.step hC rfl rfl ?_ (kf (by omega))
    show (if decide (¬ Int32.ofInt x = Int32.ofInt 0) = true then xgo tgt _ _ _ else xgo (pc + 3) _ _ _) = xgo (pc + 3) _ _ _
    rw [if_neg (by rw [decide_eq_true_eq, e]; exact h)]; rfl
theorem l_iflt {off : Int} {v : Value} {tgt z : Nat} {x : Int} (hC : C pc = some (.ifCond .lt off, 3, v, tgt, z)) (hx : -2147483648 ≤ x ∧ x < 2147483648) (kt : x < 0 → LW b N xs C d Q tgt L S M) (kf : 0 ≤ x → LW b N xs C d Q (pc + 3) L S M) : LW b N xs C d Q pc L (.inl x :: S) M := by
  have e := (yof_lt (y := 0) hx (by omega))
  by_cases h : x < 0
  · refine LW.step hC rfl rfl ?_ (kt h)
    show (if decide (Int32.ofInt x < Int32.ofInt 0) = true then xgo tgt _ _ _ else xgo (pc + 3) _ _ _) = xgo tgt _ _ _
    rw [if_pos (by rw [decide_eq_true_eq, e]; exact h)]; rfl
  · refine LW.step hC rfl rfl ?_ (kf (by omega))
    show (if decide (Int32.ofInt x < Int32.ofInt 0) = true then xgo tgt _ _ _ else xgo (pc + 3) _ _ _) = xgo (pc + 3) _ _ _
    rw [if_neg (by rw [decide_eq_true_eq, e]; exact h)]; rfl
theorem l_ifge {off : Int} {v : Value} {tgt z : Nat} {x : Int} (hC : C pc = some (.ifCond .ge off, 3, v, tgt, z)) (hx : -2147483648 ≤ x ∧ x < 2147483648) (kt : 0 ≤ x → LW b N xs C d Q tgt L S M) (kf : x < 0 → LW b N xs C d Q (pc + 3) L S M) : LW b N xs C d Q pc L (.inl x :: S) M := by
  have e := (yof_le (x := 0) (by omega) hx)
  by_cases h : 0 ≤ x
  · refine LW.step hC rfl rfl ?_ (kt h)
    show (if decide (Int32.ofInt 0 ≤ Int32.ofInt x) = true then xgo tgt _ _ _ else xgo (pc + 3) _ _ _) = xgo tgt _ _ _
    rw [if_pos (by rw [decide_eq_true_eq, e]; exact h)]; rfl
  · refine LW.step hC rfl rfl ?_ (kf (by omega))
    show (if decide (Int32.ofInt 0 ≤ Int32.ofInt x) = true then xgo tgt _ _ _ else xgo (pc + 3) _ _ _) = xgo (pc + 3) _ _ _
    rw [if_neg (by rw [decide_eq_true_eq, e]; exact h)]; rfl
theorem l_ifgt {off : Int} {v : Value} {tgt z : Nat} {x : Int} (hC : C pc = some (.ifCond .gt off, 3, v, tgt, z)) (hx : -2147483648 ≤ x ∧ x < 2147483648) (kt : 0 < x → LW b N xs C d Q tgt L S M) (kf : x ≤ 0 → LW b N xs C d Q (pc + 3) L S M) : LW b N xs C d Q pc L (.inl x :: S) M := by
  have e := (yof_lt (x := 0) (by omega) hx)
  by_cases h : 0 < x
  · refine LW.step hC rfl rfl ?_ (kt h)
    show (if decide (Int32.ofInt 0 < Int32.ofInt x) = true then xgo tgt _ _ _ else xgo (pc + 3) _ _ _) = xgo tgt _ _ _
    rw [if_pos (by rw [decide_eq_true_eq, e]; exact h)]; rfl
  · refine LW.step hC rfl rfl ?_ (kf (by omega))
    show (if decide (Int32.ofInt 0 < Int32.ofInt x) = true then xgo tgt _ _ _ else xgo (pc + 3) _ _ _) = xgo (pc + 3) _ _ _
    rw [if_neg (by rw [decide_eq_true_eq, e]; exact h)]; rfl
theorem l_ifle {off : Int} {v : Value} {tgt z : Nat} {x : Int} (hC : C pc = some (.ifCond .le off, 3, v, tgt, z)) (hx : -2147483648 ≤ x ∧ x < 2147483648) (kt : x ≤ 0 → LW b N xs C d Q tgt L S M) (kf : 0 < x → LW b N xs C d Q (pc + 3) L S M) : LW b N xs C d Q pc L (.inl x :: S) M := by
  have e := (yof_le (y := 0) hx (by omega))
  by_cases h : x ≤ 0
  · refine LW.step hC rfl rfl ?_ (kt h)
    show (if decide (Int32.ofInt x ≤ Int32.ofInt 0) = true then xgo tgt _ _ _ else xgo (pc + 3) _ _ _) = xgo tgt _ _ _
    rw [if_pos (by rw [decide_eq_true_eq, e]; exact h)]; rfl
  · refine LW.step hC rfl rfl ?_ (kf (by omega))
    show (if decide (Int32.ofInt x ≤ Int32.ofInt 0) = true then xgo tgt _ _ _ else xgo (pc + 3) _ _ _) = xgo (pc + 3) _ _ _
    rw [if_neg (by rw [decide_eq_true_eq, e]; exact h)]; rfl
theorem l_icmpeq {off : Int} {v : Value} {tgt z : Nat} {x y : Int} (hC : C pc = some (.if_icmp .eq off, 3, v, tgt, z)) (hx : -2147483648 ≤ x ∧ x < 2147483648) (hy : -2147483648 ≤ y ∧ y < 2147483648) (kt : x = y → LW b N xs C d Q tgt L S M) (kf : x ≠ y → LW b N xs C d Q (pc + 3) L S M) : LW b N xs C d Q pc L (.inl y :: .inl x :: S) M := by
  have e := (yof_eq hx hy)
  by_cases h : x = y
  · refine LW.step hC rfl rfl ?_ (kt h)
    show (if decide (Int32.ofInt x = Int32.ofInt y) = true then xgo tgt _ _ _ else xgo (pc + 3) _ _ _) = xgo tgt _ _ _
    rw [if_pos (by rw [decide_eq_true_eq, e]; exact h)]; rfl
  · refine LW.step hC rfl rfl ?_ (kf (by omega))
    show (if decide (Int32.ofInt x = Int32.ofInt y) = true then xgo tgt _ _ _ else xgo (pc + 3) _ _ _) = xgo (pc + 3) _ _ _
    rw [if_neg (by rw [decide_eq_true_eq, e]; exact h)]; rfl
theorem l_icmpne {off : Int} {v : Value} {tgt z : Nat} {x y : Int} (hC : C pc = some (.if_icmp .ne off, 3, v, tgt, z)) (hx : -2147483648 ≤ x ∧ x < 2147483648) (hy : -2147483648 ≤ y ∧ y < 2147483648) (kt : x ≠ y → LW b N xs C d Q tgt L S M) (kf : x = y → LW b N xs C d Q (pc + 3) L S M) : LW b N xs C d Q pc L (.inl y :: .inl x :: S) M := by
  have e := (yof_eq hx hy)
  by_cases h : x ≠ y
  · refine LW.step hC rfl rfl ?_ (kt h)
    show (if decide (¬ Int32.ofInt x = Int32.ofInt y) = true then xgo tgt _ _ _ else xgo (pc + 3) _ _ _) = xgo tgt _ _ _
    rw [if_pos (by rw [decide_eq_true_eq, e]; exact h)]; rfl
  · refine LW.step hC rfl rfl ?_ (kf (by omega))
    show (if decide (¬ Int32.ofInt x = Int32.ofInt y) = true then xgo tgt _ _ _ else xgo (pc + 3) _ _ _) = xgo (pc + 3) _ _ _
    rw [if_neg (by rw [decide_eq_true_eq, e]; exact h)]; rfl
theorem l_icmplt {off : Int} {v : Value} {tgt z : Nat} {x y : Int} (hC : C pc = some (.if_icmp .lt off, 3, v, tgt, z)) (hx : -2147483648 ≤ x ∧ x < 2147483648) (hy : -2147483648 ≤ y ∧ y < 2147483648) (kt : x < y → LW b N xs C d Q tgt L S M) (kf : y ≤ x → LW b N xs C d Q (pc + 3) L S M) : LW b N xs C d Q pc L (.inl y :: .inl x :: S) M := by
  have e := (yof_lt hx hy)
  by_cases h : x < y
  · refine LW.step hC rfl rfl ?_ (kt h)
    show (if decide (Int32.ofInt x < Int32.ofInt y) = true then xgo tgt _ _ _ else xgo (pc + 3) _ _ _) = xgo tgt _ _ _
    rw [if_pos (by rw [decide_eq_true_eq, e]; exact h)]; rfl
  · refine LW.step hC rfl rfl ?_ (kf (by omega))
    show (if decide (Int32.ofInt x < Int32.ofInt y) = true then xgo tgt _ _ _ else xgo (pc + 3) _ _ _) = xgo (pc + 3) _ _ _
    rw [if_neg (by rw [decide_eq_true_eq, e]; exact h)]; rfl
theorem l_icmpge {off : Int} {v : Value} {tgt z : Nat} {x y : Int} (hC : C pc = some (.if_icmp .ge off, 3, v, tgt, z)) (hx : -2147483648 ≤ x ∧ x < 2147483648) (hy : -2147483648 ≤ y ∧ y < 2147483648) (kt : y ≤ x → LW b N xs C d Q tgt L S M) (kf : x < y → LW b N xs C d Q (pc + 3) L S M) : LW b N xs C d Q pc L (.inl y :: .inl x :: S) M := by
  have e := (yof_le hy hx)
  by_cases h : y ≤ x
  · refine LW.step hC rfl rfl ?_ (kt h)
    show (if decide (Int32.ofInt y ≤ Int32.ofInt x) = true then xgo tgt _ _ _ else xgo (pc + 3) _ _ _) = xgo tgt _ _ _
    rw [if_pos (by rw [decide_eq_true_eq, e]; exact h)]; rfl
  · refine LW.step hC rfl rfl ?_ (kf (by omega))
    show (if decide (Int32.ofInt y ≤ Int32.ofInt x) = true then xgo tgt _ _ _ else xgo (pc + 3) _ _ _) = xgo (pc + 3) _ _ _
    rw [if_neg (by rw [decide_eq_true_eq, e]; exact h)]; rfl
theorem l_icmpgt {off : Int} {v : Value} {tgt z : Nat} {x y : Int} (hC : C pc = some (.if_icmp .gt off, 3, v, tgt, z)) (hx : -2147483648 ≤ x ∧ x < 2147483648) (hy : -2147483648 ≤ y ∧ y < 2147483648) (kt : y < x → LW b N xs C d Q tgt L S M) (kf : x ≤ y → LW b N xs C d Q (pc + 3) L S M) : LW b N xs C d Q pc L (.inl y :: .inl x :: S) M := by
  have e := (yof_lt hy hx)
  by_cases h : y < x
  · refine LW.step hC rfl rfl ?_ (kt h)
    show (if decide (Int32.ofInt y < Int32.ofInt x) = true then xgo tgt _ _ _ else xgo (pc + 3) _ _ _) = xgo tgt _ _ _
    rw [if_pos (by rw [decide_eq_true_eq, e]; exact h)]; rfl
  · refine LW.step hC rfl rfl ?_ (kf (by omega))
    show (if decide (Int32.ofInt y < Int32.ofInt x) = true then xgo tgt _ _ _ else xgo (pc + 3) _ _ _) = xgo (pc + 3) _ _ _
    rw [if_neg (by rw [decide_eq_true_eq, e]; exact h)]; rfl
theorem l_icmple {off : Int} {v : Value} {tgt z : Nat} {x y : Int} (hC : C pc = some (.if_icmp .le off, 3, v, tgt, z)) (hx : -2147483648 ≤ x ∧ x < 2147483648) (hy : -2147483648 ≤ y ∧ y < 2147483648) (kt : x ≤ y → LW b N xs C d Q tgt L S M) (kf : y < x → LW b N xs C d Q (pc + 3) L S M) : LW b N xs C d Q pc L (.inl y :: .inl x :: S) M := by
  have e := (yof_le hx hy)
  by_cases h : x ≤ y
  · refine LW.step hC rfl rfl ?_ (kt h)
    show (if decide (Int32.ofInt x ≤ Int32.ofInt y) = true then xgo tgt _ _ _ else xgo (pc + 3) _ _ _) = xgo tgt _ _ _
    rw [if_pos (by rw [decide_eq_true_eq, e]; exact h)]; rfl
  · refine LW.step hC rfl rfl ?_ (kf (by omega))
    show (if decide (Int32.ofInt x ≤ Int32.ofInt y) = true then xgo tgt _ _ _ else xgo (pc + 3) _ _ _) = xgo (pc + 3) _ _ _
    rw [if_neg (by rw [decide_eq_true_eq, e]; exact h)]; rfl
end YL
