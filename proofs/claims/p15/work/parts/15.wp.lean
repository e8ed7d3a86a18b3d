/-! WHAT A RUN COMES TO, OVER A HEAP OF A FIXED SHAPE: numbers as Int -/
abbrev yV : Type := Int ⊕ Int ⊕ Nat
abbrev yL : Type := List (Option yV)
/-- the whole numbers and the long ones of all objects, by object and place -/
abbrev yM : Type := (Nat → Int → Int32) × (Nat → Int → Int64)
def ld (M : yM) (o : Nat) (j : Int) : Int := (M.1 o j).toInt
def ldL (M : yM) (o : Nat) (j : Int) : Int := (M.2 o j).toInt
def put (M : yM) (o : Nat) (k v : Int) : yM := (fun o' j => if o' = o ∧ j = k then Int32.ofInt v else M.1 o' j, M.2)
def putL (M : yM) (o : Nat) (k v : Int) : yM := (M.1, fun o' j => if o' = o ∧ j = k then Int64.ofInt v else M.2 o' j)
/-- what a copy of n places from sp of the one to dp of the other leaves -/
def cpy (M : yM) (o1 o2 : Nat) (sp dp n : Int) : yM := (fun o' j => if o' = o2 ∧ dp ≤ j ∧ j < dp + n then M.1 o1 (sp + (j - dp)) else M.1 o' j, M.2)
def ycv : yV → Value
  | .inl v => .int (Int32.ofInt v)
  | .inr (.inl v) => .long (Int64.ofInt v)
  | .inr (.inr r) => .ref r
def ycL (L : yL) : xL := L.map (Option.map ycv)
def ycS (S : List yV) : List Value := S.map ycv
def yfv (M : yM) (o : Nat) (k : Nat) (f : Nat × Nat) : Value := match f.1 with
  | 0 => .int (M.1 o k)
  | 1 => .long (M.2 o k)
  | _ => .ref f.2
def yfs (M : yM) (o : Nat) : Nat → List (Nat × Nat) → List Value
  | _, [] => []
  | k, f :: r => yfv M o k f :: yfs M o (k + 1) r
def yct (M : yM) (o kd : Nat) (_ : List Nat) : (Nat → Int32) ⊕ (Nat → Int64) ⊕ (Nat → UInt32) ⊕ (Nat → UInt64) ⊕ (Nat → Option Nat) := match kd with
  | 1 => .inr (.inl (fun j => M.2 o j))
  | 3 => .inr (.inr (.inr (.inr (xFr o))))
  | 4 => .inr (.inr (.inr (.inr (xFr o))))
  | _ => .inl (fun j => M.1 o j)
def yob (M : yM) (o : Nat) : yS → xO
  | .inl (ci, fs) => .inl (ci, yfs M o 0 fs)
  | .inr (kd, n, rs) => .inr (kd, n, yct M o kd rs)
def yhp (M : yM) : Nat → List yS → xH
  | _, [] => []
  | o, s :: r => yob M o s :: yhp M (o + 1) r
def hp (M : yM) : xH := yhp M 0 shT
theorem put_1 (M : yM) (o : Nat) (k v : Int) (o' : Nat) (j : Int) : (put M o k v).1 o' j = if o' = o ∧ j = k then Int32.ofInt v else M.1 o' j := rfl
theorem put_2 (M : yM) (o : Nat) (k v : Int) : (put M o k v).2 = M.2 := rfl
theorem putL_1 (M : yM) (o : Nat) (k v : Int) : (putL M o k v).1 = M.1 := rfl
theorem putL_2 (M : yM) (o : Nat) (k v : Int) (o' : Nat) (j : Int) : (putL M o k v).2 o' j = if o' = o ∧ j = k then Int64.ofInt v else M.2 o' j := rfl
theorem put_ne (M : yM) {o o' : Nat} (k v : Int) (h : o' ≠ o) : (put M o k v).1 o' = M.1 o' := by funext j; rw [put_1, if_neg (fun q => h q.1)]
theorem putL_ne (M : yM) {o o' : Nat} (k v : Int) (h : o' ≠ o) : (putL M o k v).2 o' = M.2 o' := by funext j; rw [putL_2, if_neg (fun q => h q.1)]
theorem cpy_ne (M : yM) {o1 o2 o' : Nat} (sp dp n : Int) (h : o' ≠ o2) : (cpy M o1 o2 sp dp n).1 o' = M.1 o' := by funext j; show (if _ then _ else _) = _; rw [if_neg (fun q => h q.1)]
theorem ld_put {M : yM} {o : Nat} {k v : Int} (hv : -2147483648 ≤ v ∧ v < 2147483648) (o' : Nat) (j : Int) : ld (put M o k v) o' j = if o' = o ∧ j = k then v else ld M o' j := by
  unfold ld
  rw [put_1]
  by_cases h : o' = o ∧ j = k
  · rw [if_pos h, if_pos h, Int32.toInt_ofInt_of_le hv.1 hv.2]
  · rw [if_neg h, if_neg h]
theorem ld_putne {M : yM} {o o' : Nat} {k v j : Int} (h : o' ≠ o ∨ j ≠ k) : ld (put M o k v) o' j = ld M o' j := by
  unfold ld
  rw [put_1, if_neg (fun q => by omega)]
theorem ld_same {M : yM} {o : Nat} {k v : Int} (hv : -2147483648 ≤ v ∧ v < 2147483648) : ld (put M o k v) o k = v := by
  rw [ld_put hv, if_pos ⟨rfl, rfl⟩]
theorem ldL_put (M : yM) (o : Nat) (k v : Int) (o' : Nat) (j : Int) : ldL (put M o k v) o' j = ldL M o' j := rfl
theorem ld_putL (M : yM) (o : Nat) (k v : Int) (o' : Nat) (j : Int) : ld (putL M o k v) o' j = ld M o' j := rfl
theorem ldL_putL {M : yM} {o : Nat} {k v : Int} (hv : -9223372036854775808 ≤ v ∧ v < 9223372036854775808) (o' : Nat) (j : Int) : ldL (putL M o k v) o' j = if o' = o ∧ j = k then v else ldL M o' j := by
  unfold ldL
  rw [putL_2]
  by_cases h : o' = o ∧ j = k
  · rw [if_pos h, if_pos h, Int64.toInt_ofInt_of_le hv.1 hv.2]
  · rw [if_neg h, if_neg h]
theorem ldL_putLne {M : yM} {o o' : Nat} {k v j : Int} (h : o' ≠ o ∨ j ≠ k) : ldL (putL M o k v) o' j = ldL M o' j := by
  unfold ldL
  rw [putL_2, if_neg (fun q => by omega)]
theorem ld_cpy (M : yM) (o1 o2 : Nat) (sp dp n : Int) (o' : Nat) (j : Int) : ld (cpy M o1 o2 sp dp n) o' j = if o' = o2 ∧ dp ≤ j ∧ j < dp + n then ld M o1 (sp + (j - dp)) else ld M o' j := by
  unfold ld
  show (if _ then _ else _ : Int32).toInt = _
  by_cases h : o' = o2 ∧ dp ≤ j ∧ j < dp + n
  · rw [if_pos h, if_pos h]
  · rw [if_neg h, if_neg h]
theorem ldL_cpy (M : yM) (o1 o2 : Nat) (sp dp n : Int) (o' : Nat) (j : Int) : ldL (cpy M o1 o2 sp dp n) o' j = ldL M o' j := rfl
theorem rng_ld (M : yM) (o : Nat) (j : Int) : -2147483648 ≤ ld M o j ∧ ld M o j < 2147483648 := by
  have h1 := Int32.le_toInt (M.1 o j)
  have h2 := Int32.toInt_lt (M.1 o j)
  unfold ld
  omega
theorem ycL_at {L : yL} {i : Nat} {w : Option yV} (h : L[i]? = some w) : (ycL L)[i]? = some (w.map ycv) := by
  unfold ycL
  rw [List.getElem?_map, h]
  rfl
theorem yhp_at {M : yM} : ∀ (l : List yS) (o i : Nat) (s : yS), l[i]? = some s → (yhp M o l)[i]? = some (yob M (o + i) s)
  | [], _, _, _, h => by simp at h
  | s0 :: r, o, 0, s, h => by
    simp only [List.getElem?_cons_zero, Option.some.injEq] at h
    subst h
    rfl
  | s0 :: r, o, i + 1, s, h => by
    simp only [List.getElem?_cons_succ] at h
    have := yhp_at (M := M) r (o + 1) i s h
    simp only [yhp, List.getElem?_cons_succ]
    rw [this, show o + 1 + i = o + (i + 1) by omega]
theorem hp_at {M : yM} {i : Nat} {s : yS} (h : shT[i]? = some s) : (hp M)[i]? = some (yob M i s) := by
  have := yhp_at (M := M) shT 0 i s h
  rw [Nat.zero_add] at this
  exact this
theorem yfs_congr {M M' : yM} {o : Nat} (h1 : M'.1 o = M.1 o) (h2 : M'.2 o = M.2 o) : ∀ (fs : List (Nat × Nat)) (k : Nat), yfs M' o k fs = yfs M o k fs
  | [], _ => rfl
  | f :: r, k => by
    simp only [yfs, yfv, h1, h2]
    rw [yfs_congr h1 h2 r (k + 1)]
theorem yob_congr {M M' : yM} {o : Nat} (h1 : M'.1 o = M.1 o) (h2 : M'.2 o = M.2 o) (s : yS) : yob M' o s = yob M o s := by
  rcases s with ⟨ci, fs⟩ | ⟨kd, n, rs⟩
  · simp only [yob]; rw [yfs_congr h1 h2]
  · simp only [yob, yct, h1, h2]
theorem yhp_set {M M' : yM} : ∀ (l : List yS) (o i : Nat) (s : yS), l[i]? = some s → (∀ j, j ≠ o + i → M'.1 j = M.1 j ∧ M'.2 j = M.2 j) → (yhp M o l).set i (yob M' (o + i) s) = yhp M' o l
  | [], _, _, _, h, _ => by simp at h
  | s0 :: r, o, 0, s, h, hj => by
    simp only [List.getElem?_cons_zero, Option.some.injEq] at h
    subst h
    simp only [yhp, List.set_cons_zero, Nat.add_zero]
    congr 1
    have : ∀ (l : List yS) (q : Nat), o < q → yhp M q l = yhp M' q l := by
      intro l
      induction l with
      | nil => intro q _; rfl
      | cons a b ih =>
        intro q hq
        simp only [yhp]
        have := hj q (by omega)
        rw [ih (q + 1) (by omega), yob_congr this.1 this.2]
    exact this r (o + 1) (by omega)
  | s0 :: r, o, i + 1, s, h, hj => by
    simp only [List.getElem?_cons_succ] at h
    simp only [yhp, List.set_cons_succ]
    have h0 := hj o (by omega)
    rw [yob_congr h0.1 h0.2]
    congr 1
    have := yhp_set (M := M) (M' := M') r (o + 1) i s h (fun j hq => hj j (by omega))
    rw [show o + (i + 1) = o + 1 + i by omega]
    exact this
theorem hp_setM {M M' : yM} {i : Nat} {s : yS} (h : shT[i]? = some s) (hj : ∀ j, j ≠ i → M'.1 j = M.1 j ∧ M'.2 j = M.2 j) : (hp M).set i (yob M' i s) = hp M' := by
  have := yhp_set (M := M) (M' := M') shT 0 i s h (fun j hq => hj j (by omega))
  rw [Nat.zero_add] at this
  exact this
theorem hp_put {M : yM} {i : Nat} {s : yS} {k v : Int} (h : shT[i]? = some s) : (hp M).set i (yob (put M i k v) i s) = hp (put M i k v) := hp_setM h (fun _ hj => ⟨put_ne M k v hj, rfl⟩)
theorem hp_putL {M : yM} {i : Nat} {s : yS} {k v : Int} (h : shT[i]? = some s) : (hp M).set i (yob (putL M i k v) i s) = hp (putL M i k v) := hp_setM h (fun _ hj => ⟨rfl, putL_ne M k v hj⟩)
theorem hp_cpy {M : yM} {o1 o2 : Nat} {s : yS} {sp dp n : Int} (h : shT[o2]? = some s) : (hp M).set o2 (yob (cpy M o1 o2 sp dp n) o2 s) = hp (cpy M o1 o2 sp dp n) := hp_setM h (fun _ hj => ⟨cpy_ne M sp dp n hj, rfl⟩)
theorem yfs_at {M : yM} {o : Nat} : ∀ (fs : List (Nat × Nat)) (b k : Nat) (f : Nat × Nat), fs[k]? = some f → (yfs M o b fs)[k]? = some (yfv M o (b + k) f)
  | [], _, _, _, h => by simp at h
  | f0 :: r, b, 0, f, h => by
    simp only [List.getElem?_cons_zero, Option.some.injEq] at h
    subst h; rfl
  | f0 :: r, b, k + 1, f, h => by
    simp only [List.getElem?_cons_succ] at h
    simp only [yfs, List.getElem?_cons_succ]
    rw [yfs_at r (b + 1) k f h, show b + 1 + k = b + (k + 1) by omega]
theorem yfs_len {M : yM} {o : Nat} : ∀ (fs : List (Nat × Nat)) (b : Nat), (yfs M o b fs).length = fs.length
  | [], _ => rfl
  | f :: r, b => by simp only [yfs, List.length_cons]; rw [yfs_len r (b + 1)]
theorem yfv_put {M : yM} {o k j : Nat} {v : Int} (hj : j ≠ k) (f : Nat × Nat) : yfv (put M o k v) o j f = yfv M o j f := by
  unfold yfv
  rw [put_1, put_2, if_neg (by omega)]
theorem yfv_putL {M : yM} {o k j : Nat} {v : Int} (hj : j ≠ k) (f : Nat × Nat) : yfv (putL M o k v) o j f = yfv M o j f := by
  unfold yfv
  rw [putL_2, putL_1, if_neg (by omega)]
theorem yfs_set {M M' : yM} {o q : Nat} (h : ∀ j f, j ≠ q → yfv M' o j f = yfv M o j f) : ∀ (fs : List (Nat × Nat)) (b k : Nat) (f : Nat × Nat), fs[k]? = some f → b + k = q → (yfs M o b fs).set k (yfv M' o q f) = yfs M' o b fs
  | [], _, _, _, hf, _ => by simp at hf
  | f0 :: r, b, 0, f, hf, hq => by
    simp only [List.getElem?_cons_zero, Option.some.injEq] at hf
    subst hf
    simp only [yfs, List.set_cons_zero]
    rw [show q = b by omega]
    congr 1
    have : ∀ (l : List (Nat × Nat)) (c : Nat), b < c → yfs M o c l = yfs M' o c l := by
      intro l
      induction l with
      | nil => intro _ _; rfl
      | cons a l ih =>
        intro c hc
        simp only [yfs]
        rw [ih (c + 1) (by omega), h c a (by omega)]
    exact this r (b + 1) (by omega)
  | f0 :: r, b, k + 1, f, hf, hq => by
    simp only [List.getElem?_cons_succ] at hf
    simp only [yfs, List.set_cons_succ]
    rw [h b f0 (by omega)]
    congr 1
    exact yfs_set h r (b + 1) k f hf (by omega)
/-! numbers -/
theorem yof_eq {x y : Int} (hx : -2147483648 ≤ x ∧ x < 2147483648) (hy : -2147483648 ≤ y ∧ y < 2147483648) : Int32.ofInt x = Int32.ofInt y ↔ x = y := by
  constructor
  · intro h
    have := congrArg Int32.toInt h
    rwa [Int32.toInt_ofInt_of_le hx.1 hx.2, Int32.toInt_ofInt_of_le hy.1 hy.2] at this
  · intro h; rw [h]
theorem yof_lt {x y : Int} (hx : -2147483648 ≤ x ∧ x < 2147483648) (hy : -2147483648 ≤ y ∧ y < 2147483648) : Int32.ofInt x < Int32.ofInt y ↔ x < y := by
  rw [Int32.lt_iff_toInt_lt, Int32.toInt_ofInt_of_le hx.1 hx.2, Int32.toInt_ofInt_of_le hy.1 hy.2]
theorem yof_le {x y : Int} (hx : -2147483648 ≤ x ∧ x < 2147483648) (hy : -2147483648 ≤ y ∧ y < 2147483648) : Int32.ofInt x ≤ Int32.ofInt y ↔ x ≤ y := by
  rw [Int32.le_iff_toInt_le, Int32.toInt_ofInt_of_le hx.1 hx.2, Int32.toInt_ofInt_of_le hy.1 hy.2]
theorem yof_0 : (0 : Int32) = Int32.ofInt 0 := rfl
theorem yix {j : Int} {n : Nat} (h : 0 ≤ j ∧ j < n) (hn : n ≤ 100000) : xin (Int32.ofInt j) n = true ∧ (Int32.ofInt j).toNatClampNeg = j.toNat := by
  have h1 : (Int32.ofInt j).toInt = j := Int32.toInt_ofInt_of_le (by omega) (by omega)
  have h2 : (Int32.ofInt j).toNatClampNeg = j.toNat := by
    show (Int32.ofInt j).toInt.toNat = _
    rw [h1]
  refine ⟨?_, h2⟩
  unfold xin
  rw [h2, yof_0]
  simp only [Bool.not_eq_true', Bool.or_eq_false_iff, decide_eq_false_iff_not]
  refine ⟨?_, ?_⟩
  · rw [yof_lt (by omega) (by omega)]; omega
  · apply Bool.eq_false_iff.mpr
    intro q
    have := Nat.le_of_ble_eq_true q
    omega
def yand (x y : Int) : Int := (Int32.ofInt x &&& Int32.ofInt y).toInt
def yor (x y : Int) : Int := (Int32.ofInt x ||| Int32.ofInt y).toInt
def yxor (x y : Int) : Int := (Int32.ofInt x ^^^ Int32.ofInt y).toInt
def yshl (x y : Int) : Int := (Int32.ofInt x <<< (Int32.ofInt y &&& 31)).toInt
def yshr (x y : Int) : Int := (Int32.ofInt x >>> (Int32.ofInt y &&& 31)).toInt
def yushr (x y : Int) : Int := ((Int32.ofInt x).toUInt32 >>> ((Int32.ofInt y).toUInt32 &&& Int32.toUInt32 31)).toInt32.toInt
def ydiv (x y : Int) : Int := (Int32.ofInt x / Int32.ofInt y).toInt
def yrem (x y : Int) : Int := (Int32.ofInt x - Int32.ofInt x / Int32.ofInt y * Int32.ofInt y).toInt
def zand (x y : Int) : Int := (Int64.ofInt x &&& Int64.ofInt y).toInt
def zor (x y : Int) : Int := (Int64.ofInt x ||| Int64.ofInt y).toInt
def zxor (x y : Int) : Int := (Int64.ofInt x ^^^ Int64.ofInt y).toInt
def zshl (x y : Int) : Int := (Int64.ofInt x <<< ((Int32.ofInt y).toInt64 &&& 63)).toInt
def zshr (x y : Int) : Int := (Int64.ofInt x >>> ((Int32.ofInt y).toInt64 &&& 63)).toInt
def zushr (x y : Int) : Int := ((Int64.ofInt x).toUInt64 >>> ((Int32.ofInt y).toInt64.toUInt64 &&& Int64.toUInt64 63)).toInt64.toInt
def zcmp (x y : Int) : Int := (lg_cmp (Int64.ofInt x) (Int64.ofInt y)).toInt
theorem rng_toInt (x : Int32) : -2147483648 ≤ x.toInt ∧ x.toInt < 2147483648 := by
  have h1 := Int32.le_toInt x
  have h2 := Int32.toInt_lt x
  omega
theorem rng_yand (a b : Int) : -2147483648 ≤ yand a b ∧ yand a b < 2147483648 := rng_toInt _
theorem rng_yor (a b : Int) : -2147483648 ≤ yor a b ∧ yor a b < 2147483648 := rng_toInt _
theorem rng_yxor (a b : Int) : -2147483648 ≤ yxor a b ∧ yxor a b < 2147483648 := rng_toInt _
theorem rng_yshl (a b : Int) : -2147483648 ≤ yshl a b ∧ yshl a b < 2147483648 := rng_toInt _
theorem rng_yshr (a b : Int) : -2147483648 ≤ yshr a b ∧ yshr a b < 2147483648 := rng_toInt _
theorem rng_yushr (a b : Int) : -2147483648 ≤ yushr a b ∧ yushr a b < 2147483648 := rng_toInt _
theorem xrun_mono {ty : xT} {P : List xM} : ∀ (n d : Nat) (C : xC) (pc : Nat) (L : xL) (S : List Value) (h : xH) (r : Option Value × xH), xrun ty P n d C pc L S h = some r → ∀ n' d', n ≤ n' → d ≤ d' → xrun ty P n' d' C pc L S h = some r := by
  intro n
  induction n with
  | zero => intro d C pc L S h r hr; cases hr
  | succ n ih =>
    intro d C pc L S h r hr n' d' hn hd
    obtain ⟨k, rfl⟩ : ∃ k, n' = k + 1 := ⟨n' - 1, by omega⟩
    have hk : n ≤ k := by omega
    unfold xrun at hr ⊢
    cases hC : C pc with
    | none => rw [hC] at hr; cases hr
    | some I =>
      simp only [hC] at hr ⊢
      cases he : xend I.1 S with
      | some q => simp only [he] at hr ⊢; exact hr
      | none =>
        simp only [he] at hr ⊢
        cases hc : xcl I.1 I.2.2 S with
        | none =>
          simp only [hc] at hr ⊢
          cases hx : xdo ty pc I.2.1 I.2.2 I.1 L S h with
          | none => rw [hx] at hr; cases hr
          | some w =>
            rcases w with ⟨pc', L', S', h'⟩ | w
            · simp only [hx] at hr ⊢; exact ih _ _ _ _ _ _ _ hr _ _ hk hd
            · rw [hx] at hr; cases hr
        | some q =>
          simp only [hc] at hr ⊢
          cases d with
          | zero => cases hr
          | succ d =>
            obtain ⟨e, rfl⟩ : ∃ e, d' = e + 1 := ⟨d' - 1, by omega⟩
            dsimp only at hr ⊢
            cases hP : P[q.1]? with
            | none => rw [hP] at hr; cases hr
            | some Mm =>
              simp only [hP] at hr ⊢
              cases hb : (xrcv Mm.2.2.2.2.1 h q.2.1 && Nat.ble (q.2.1.map fun v => v.category).sum Mm.2.2.1) with
              | false => rw [hb] at hr; cases hr
              | true =>
                rw [hb, cond_true] at hr
                rw [cond_true]
                cases h1 : xrun ty P n d Mm.2.2.2.2.2 0 (xent Mm.2.2.1 q.2.1) [] h with
                | none => rw [h1] at hr; cases hr
                | some w =>
                  obtain ⟨r1, h2⟩ := w
                  rw [h1] at hr
                  rw [ih _ _ _ _ _ _ _ h1 k e hk (by omega)]
                  dsimp only at hr ⊢
                  cases hy : xret Mm.2.2.2.1 r1 with
                  | false => rw [hy] at hr; cases hr
                  | true =>
                    rw [hy, cond_true] at hr
                    rw [cond_true]
                    exact ih _ _ _ _ _ _ _ hr k (e + 1) hk (by omega)
def XW (C : xC) (d : Nat) (rt : Option FieldType) (Q : Option yV → yM → Prop) (pc : Nat) (L : yL) (S : List yV) (M : yM) : Prop :=
  ∃ (n : Nat) (r : Option yV) (M' : yM), xrun xty xP n d C pc (ycL L) (ycS S) (hp M) = some (r.map ycv, hp M') ∧ xret rt (r.map ycv) = true ∧ Q r M'
def XC (d k : Nat) (args : List yV) (M : yM) (Q : Option yV → yM → Prop) : Prop :=
  ∃ Mm : xM, xP[k]? = some Mm ∧ xrcv Mm.2.2.2.2.1 (hp M) (args.map ycv) = true ∧ Nat.ble ((args.map ycv).map fun v => v.category).sum Mm.2.2.1 = true ∧ ∃ (n : Nat) (r : Option yV) (M' : yM), xrun xty xP n d Mm.2.2.2.2.2 0 (xent Mm.2.2.1 (args.map ycv)) [] (hp M) = some (r.map ycv, hp M') ∧ xret Mm.2.2.2.1 (r.map ycv) = true ∧ Q r M'
def wQi (Q : Int → yM → Prop) : Option yV → yM → Prop := fun r M => ∃ v, r = some (.inl v) ∧ Q v M
def wQl (Q : Int → yM → Prop) : Option yV → yM → Prop := fun r M => ∃ v, r = some (.inr (.inl v)) ∧ Q v M
def wQr (Q : Nat → yM → Prop) : Option yV → yM → Prop := fun r M => ∃ v, r = some (.inr (.inr v)) ∧ Q v M
def wQv (Q : yM → Prop) : Option yV → yM → Prop := fun r M => r = none ∧ Q M
def XCi (d k : Nat) (args : List yV) (M : yM) (Q : Int → yM → Prop) : Prop := XC d k args M (wQi Q)
def XCl (d k : Nat) (args : List yV) (M : yM) (Q : Int → yM → Prop) : Prop := XC d k args M (wQl Q)
def XCr (d k : Nat) (args : List yV) (M : yM) (Q : Nat → yM → Prop) : Prop := XC d k args M (wQr Q)
def XCv (d k : Nat) (args : List yV) (M : yM) (Q : yM → Prop) : Prop := XC d k args M (wQv Q)
theorem XC.weak {d k : Nat} {args : List yV} {M : yM} {Q Q' : Option yV → yM → Prop} (h : XC d k args M Q) (hq : ∀ r M', Q r M' → Q' r M') : XC d k args M Q' := by
  obtain ⟨Mm, h1, h2, h3, n, r, M', h4, h5, h6⟩ := h
  exact ⟨Mm, h1, h2, h3, n, r, M', h4, h5, hq _ _ h6⟩
theorem XC.deep {d d' k : Nat} {args : List yV} {M : yM} {Q : Option yV → yM → Prop} (h : XC d k args M Q) (hd : d ≤ d') : XC d' k args M Q := by
  obtain ⟨Mm, h1, h2, h3, n, r, M', h4, h5, h6⟩ := h
  exact ⟨Mm, h1, h2, h3, n, r, M', xrun_mono _ _ _ _ _ _ _ _ h4 n d' (Nat.le_refl _) hd, h5, h6⟩
section YR
variable {C : xC} {d : Nat} {rt : Option FieldType} {Q : Option yV → yM → Prop} {pc : Nat} {L : yL} {S : List yV} {M : yM}
theorem XW.step {I : xI} {pc' : Nat} {L' : yL} {S' : List yV} {M' : yM} (hC : C pc = some I) (he : xend I.1 (ycS S) = none) (hc : xcl I.1 I.2.2 (ycS S) = none) (hd : xdo xty pc I.2.1 I.2.2 I.1 (ycL L) (ycS S) (hp M) = some (.inl (pc', ycL L', ycS S', hp M'))) (k : XW C d rt Q pc' L' S' M') : XW C d rt Q pc L S M := by
  obtain ⟨n, r, M2, h1, h2, h3⟩ := k
  refine ⟨n + 1, r, M2, ?_, h2, h3⟩
  unfold xrun
  simp only [hC, he, hc, hd]
  exact h1
theorem XW.call {I : xI} {k : Nat} {args S' : List yV} (hC : C pc = some I) (he : xend I.1 (ycS S) = none) (hc : xcl I.1 I.2.2 (ycS S) = some (k, args.map ycv, ycS S')) (hk : XC d k args M (fun r M' => XW C (d + 1) rt Q (pc + 3) L (r.toList ++ S') M')) : XW C (d + 1) rt Q pc L S M := by
  obtain ⟨Mm, hP, hrc, hcat, n, r, M1, h1, h2, h3⟩ := hk
  obtain ⟨n2, r2, M2, g1, g2, g3⟩ := h3
  refine ⟨max n n2 + 1, r2, M2, ?_, g2, g3⟩
  unfold xrun
  simp only [hC, he, hc, hP, hrc, hcat, Bool.and_self, cond_true]
  rw [xrun_mono _ _ _ _ _ _ _ _ h1 (max n n2) d (Nat.le_max_left _ _) (Nat.le_refl _)]
  simp only [h2, cond_true]
  have e : (r.map ycv).toList ++ ycS S' = ycS (r.toList ++ S') := by cases r <;> rfl
  rw [e]
  exact xrun_mono _ _ _ _ _ _ _ _ g1 (max n n2) (d + 1) (Nat.le_max_right _ _) (Nat.le_refl _)
theorem x_calli {I : xI} {k : Nat} {args S' : List yV} (hC : C pc = some I) (he : xend I.1 (ycS S) = none) (hc : xcl I.1 I.2.2 (ycS S) = some (k, args.map ycv, ycS S')) (hk : XCi d k args M (fun v M' => XW C (d + 1) rt Q (pc + 3) L (.inl v :: S') M')) : XW C (d + 1) rt Q pc L S M :=
  XW.call hC he hc (XC.weak hk (fun r M' h => by obtain ⟨v, rfl, h⟩ := h; exact h))
theorem x_calll {I : xI} {k : Nat} {args S' : List yV} (hC : C pc = some I) (he : xend I.1 (ycS S) = none) (hc : xcl I.1 I.2.2 (ycS S) = some (k, args.map ycv, ycS S')) (hk : XCl d k args M (fun v M' => XW C (d + 1) rt Q (pc + 3) L (.inr (.inl v) :: S') M')) : XW C (d + 1) rt Q pc L S M :=
  XW.call hC he hc (XC.weak hk (fun r M' h => by obtain ⟨v, rfl, h⟩ := h; exact h))
theorem x_callr {I : xI} {k : Nat} {args S' : List yV} (hC : C pc = some I) (he : xend I.1 (ycS S) = none) (hc : xcl I.1 I.2.2 (ycS S) = some (k, args.map ycv, ycS S')) (hk : XCr d k args M (fun v M' => XW C (d + 1) rt Q (pc + 3) L (.inr (.inr v) :: S') M')) : XW C (d + 1) rt Q pc L S M :=
  XW.call hC he hc (XC.weak hk (fun r M' h => by obtain ⟨v, rfl, h⟩ := h; exact h))
theorem x_callv {I : xI} {k : Nat} {args S' : List yV} (hC : C pc = some I) (he : xend I.1 (ycS S) = none) (hc : xcl I.1 I.2.2 (ycS S) = some (k, args.map ycv, ycS S')) (hk : XCv d k args M (fun M' => XW C (d + 1) rt Q (pc + 3) L S' M')) : XW C (d + 1) rt Q pc L S M :=
  XW.call hC he hc (XC.weak hk (fun r M' h => by obtain ⟨rfl, h⟩ := h; exact h))
theorem XC.ofW {k : Nat} {args : List yV} {Mm : xM} {L0 : yL} (hP : xP[k]? = some Mm) (hrc : xrcv Mm.2.2.2.2.1 (hp M) (args.map ycv) = true) (hcat : Nat.ble ((args.map ycv).map fun v => v.category).sum Mm.2.2.1 = true) (hL : xent Mm.2.2.1 (args.map ycv) = ycL L0) (h : XW Mm.2.2.2.2.2 d Mm.2.2.2.1 Q 0 L0 [] M) : XC d k args M Q := by
  obtain ⟨n, r, M', h1, h2, h3⟩ := h
  exact ⟨Mm, hP, hrc, hcat, n, r, M', by rw [hL]; exact h1, h2, h3⟩
theorem rcv_ok {ci o : Nat} {fs : List (Nat × Nat)} {as : List Value} (h : shT[o]? = some (.inl (ci, fs))) : xrcv (ci + 1) (hp M) (.ref o :: as) = true := by
  unfold xrcv
  simp only [hp_at h, yob, BEq.rfl]
/-! a rule an instruction -/
theorem x_iconst {n : Int} {len : Nat} {w : Int32} {x y : Nat} (v : Int) (hC : C pc = some (.iconst n, len, .int w, x, y)) (hv : w = Int32.ofInt v) (k : XW C d rt Q (pc + len) L (.inl v :: S) M) : XW C d rt Q pc L S M :=
  XW.step hC rfl rfl (by subst hv; rfl) k
theorem x_bipush {n : Int} {len : Nat} {w : Int32} {x y : Nat} (v : Int) (hC : C pc = some (.bipush n, len, .int w, x, y)) (hv : w = Int32.ofInt v) (k : XW C d rt Q (pc + len) L (.inl v :: S) M) : XW C d rt Q pc L S M :=
  XW.step hC rfl rfl (by subst hv; rfl) k
theorem x_sipush {n : Int} {len : Nat} {w : Int32} {x y : Nat} (v : Int) (hC : C pc = some (.sipush n, len, .int w, x, y)) (hv : w = Int32.ofInt v) (k : XW C d rt Q (pc + len) L (.inl v :: S) M) : XW C d rt Q pc L S M :=
  XW.step hC rfl rfl (by subst hv; rfl) k
theorem x_ldc {n : Nat} {len : Nat} {w : Int32} {x y : Nat} (v : Int) (hC : C pc = some (.ldc n, len, .int w, x, y)) (hv : w = Int32.ofInt v) (k : XW C d rt Q (pc + len) L (.inl v :: S) M) : XW C d rt Q pc L S M :=
  XW.step hC rfl rfl (by subst hv; rfl) k
theorem x_ldc_w {n : Nat} {len : Nat} {w : Int32} {x y : Nat} (v : Int) (hC : C pc = some (.ldc_w n, len, .int w, x, y)) (hv : w = Int32.ofInt v) (k : XW C d rt Q (pc + len) L (.inl v :: S) M) : XW C d rt Q pc L S M :=
  XW.step hC rfl rfl (by subst hv; rfl) k
theorem x_lconst {n : Fin 2} {len : Nat} {w : Int64} {x y : Nat} (v : Int) (hC : C pc = some (.lconst n, len, .long w, x, y)) (hv : w = Int64.ofInt v) (k : XW C d rt Q (pc + len) L (.inr (.inl v) :: S) M) : XW C d rt Q pc L S M :=
  XW.step hC rfl rfl (by subst hv; rfl) k
theorem x_ldc2_w {n : Nat} {len : Nat} {w : Int64} {x y : Nat} (v : Int) (hC : C pc = some (.ldc2_w n, len, .long w, x, y)) (hv : w = Int64.ofInt v) (k : XW C d rt Q (pc + len) L (.inr (.inl v) :: S) M) : XW C d rt Q pc L S M :=
  XW.step hC rfl rfl (by subst hv; rfl) k
theorem x_iload {j : Nat} {len : Nat} {w : Value} {i z : Nat} {v : Int} (hC : C pc = some (.iload j, len, w, i, z)) (hL : L[i]? = some (some (.inl v))) (k : XW C d rt Q (pc + len) L (.inl v :: S) M) : XW C d rt Q pc L S M :=
  XW.step hC rfl rfl (by show xild (ycL L) i (pc + len) (ycS S) (hp M) = _; unfold xild; rw [ycL_at hL]; rfl) k
theorem x_iload_n {j : Fin 4} {len : Nat} {w : Value} {i z : Nat} {v : Int} (hC : C pc = some (.iload_n j, len, w, i, z)) (hL : L[i]? = some (some (.inl v))) (k : XW C d rt Q (pc + len) L (.inl v :: S) M) : XW C d rt Q pc L S M :=
  XW.step hC rfl rfl (by show xild (ycL L) i (pc + len) (ycS S) (hp M) = _; unfold xild; rw [ycL_at hL]; rfl) k
theorem x_lload {j : Nat} {len : Nat} {w : Value} {i z : Nat} {v : Int} (hC : C pc = some (.lload j, len, w, i, z)) (hL : L[i]? = some (some (.inr (.inl v)))) (k : XW C d rt Q (pc + len) L (.inr (.inl v) :: S) M) : XW C d rt Q pc L S M :=
  XW.step hC rfl rfl (by show xlld (ycL L) i (pc + len) (ycS S) (hp M) = _; unfold xlld; rw [ycL_at hL]; rfl) k
theorem x_lload_n {j : Fin 4} {len : Nat} {w : Value} {i z : Nat} {v : Int} (hC : C pc = some (.lload_n j, len, w, i, z)) (hL : L[i]? = some (some (.inr (.inl v)))) (k : XW C d rt Q (pc + len) L (.inr (.inl v) :: S) M) : XW C d rt Q pc L S M :=
  XW.step hC rfl rfl (by show xlld (ycL L) i (pc + len) (ycS S) (hp M) = _; unfold xlld; rw [ycL_at hL]; rfl) k
theorem x_aload {j : Nat} {len : Nat} {w : Value} {i z : Nat} {v : Nat} (hC : C pc = some (.aload j, len, w, i, z)) (hL : L[i]? = some (some (.inr (.inr v)))) (k : XW C d rt Q (pc + len) L (.inr (.inr v) :: S) M) : XW C d rt Q pc L S M :=
  XW.step hC rfl rfl (by show xald (ycL L) i (pc + len) (ycS S) (hp M) = _; unfold xald; rw [ycL_at hL]; rfl) k
theorem x_aload_n {j : Fin 4} {len : Nat} {w : Value} {i z : Nat} {v : Nat} (hC : C pc = some (.aload_n j, len, w, i, z)) (hL : L[i]? = some (some (.inr (.inr v)))) (k : XW C d rt Q (pc + len) L (.inr (.inr v) :: S) M) : XW C d rt Q pc L S M :=
  XW.step hC rfl rfl (by show xald (ycL L) i (pc + len) (ycS S) (hp M) = _; unfold xald; rw [ycL_at hL]; rfl) k
def yst1 (L : yL) (a : Nat) (v : yV) : yL := match a with
  | 0 => L.set 0 (some v)
  | b + 1 => match L[b]? with
    | some (some (.inr (.inl _))) => (L.set b none).set (b + 1) (some v)
    | _ => L.set (b + 1) (some v)
def yst2 (L : yL) (a : Nat) (v : yV) : yL := (yst1 L a v).set (a + 1) none
theorem ycL_set (L : yL) (i : Nat) (w : Option yV) : ycL (L.set i w) = (ycL L).set i (w.map ycv) := by
  unfold ycL; rw [List.map_set]
theorem yst1_ok (L : yL) (a : Nat) (v : yV) : xst1 (ycL L) a (ycv v) = ycL (yst1 L a v) := by
  cases a with
  | zero => simp only [xst1, yst1, ycL_set, Option.map_some]
  | succ b =>
    cases hb : L[b]? with
    | none =>
      have h2 : (ycL L)[b]? = none := by unfold ycL; rw [List.getElem?_map, hb]; rfl
      simp only [xst1, yst1, hb, h2, ycL_set, Option.map_some]
    | some w =>
      have h2 := ycL_at hb
      cases w with
      | none => simp only [xst1, yst1, hb, h2, ycL_set, Option.map_some, Option.map_none]
      | some u =>
        rcases u with u | u | u
        · simp [xst1, yst1, hb, h2, ycL_set, ycv, Value.category]
        · simp [xst1, yst1, hb, h2, ycL_set, ycv, Value.category]
        · simp [xst1, yst1, hb, h2, ycL_set, ycv, Value.category]
theorem yst2_ok (L : yL) (a : Nat) (v : yV) : xst2 (ycL L) a (ycv v) = ycL (yst2 L a v) := by
  unfold xst2 yst2
  rw [yst1_ok, ycL_set]
  rfl
theorem ycL_len (L : yL) : (ycL L).length = L.length := by unfold ycL; rw [List.length_map]
theorem x_istore {j : Nat} {len : Nat} {w : Value} {i z : Nat} {v : Int} {L' : yL} (hC : C pc = some (.istore j, len, w, i, z)) (hi : i < L.length) (hL : yst1 L i (.inl v) = L') (k : XW C d rt Q (pc + len) L' S M) : XW C d rt Q pc L (.inl v :: S) M :=
  XW.step hC rfl rfl (by
    subst hL
    show xist (ycL L) i (pc + len) (ycv (.inl v) :: ycS S) (hp M) = _
    have h2 := yst1_ok L i (.inl v)
    unfold xist
    simp only [ycv] at h2 ⊢
    rw [ycL_len, if_pos hi, h2]
    rfl) k
theorem x_istore_n {j : Fin 4} {len : Nat} {w : Value} {i z : Nat} {v : Int} {L' : yL} (hC : C pc = some (.istore_n j, len, w, i, z)) (hi : i < L.length) (hL : yst1 L i (.inl v) = L') (k : XW C d rt Q (pc + len) L' S M) : XW C d rt Q pc L (.inl v :: S) M :=
  XW.step hC rfl rfl (by
    subst hL
    show xist (ycL L) i (pc + len) (ycv (.inl v) :: ycS S) (hp M) = _
    have h2 := yst1_ok L i (.inl v)
    unfold xist
    simp only [ycv] at h2 ⊢
    rw [ycL_len, if_pos hi, h2]
    rfl) k
theorem x_lstore {j : Nat} {len : Nat} {w : Value} {i z : Nat} {v : Int} {L' : yL} (hC : C pc = some (.lstore j, len, w, i, z)) (hi : i + 1 < L.length) (hL : yst2 L i (.inr (.inl v)) = L') (k : XW C d rt Q (pc + len) L' S M) : XW C d rt Q pc L (.inr (.inl v) :: S) M :=
  XW.step hC rfl rfl (by
    subst hL
    show xlst (ycL L) i (pc + len) (ycv (.inr (.inl v)) :: ycS S) (hp M) = _
    have h2 := yst2_ok L i (.inr (.inl v))
    unfold xlst
    simp only [ycv] at h2 ⊢
    rw [ycL_len, if_pos hi, h2]
    rfl) k
theorem x_lstore_n {j : Fin 4} {len : Nat} {w : Value} {i z : Nat} {v : Int} {L' : yL} (hC : C pc = some (.lstore_n j, len, w, i, z)) (hi : i + 1 < L.length) (hL : yst2 L i (.inr (.inl v)) = L') (k : XW C d rt Q (pc + len) L' S M) : XW C d rt Q pc L (.inr (.inl v) :: S) M :=
  XW.step hC rfl rfl (by
    subst hL
    show xlst (ycL L) i (pc + len) (ycv (.inr (.inl v)) :: ycS S) (hp M) = _
    have h2 := yst2_ok L i (.inr (.inl v))
    unfold xlst
    simp only [ycv] at h2 ⊢
    rw [ycL_len, if_pos hi, h2]
    rfl) k
theorem x_astore {j : Nat} {len : Nat} {w : Value} {i z : Nat} {v : Nat} {L' : yL} (hC : C pc = some (.astore j, len, w, i, z)) (hi : i < L.length) (hL : yst1 L i (.inr (.inr v)) = L') (k : XW C d rt Q (pc + len) L' S M) : XW C d rt Q pc L (.inr (.inr v) :: S) M :=
  XW.step hC rfl rfl (by
    subst hL
    show xast (ycL L) i (pc + len) (ycv (.inr (.inr v)) :: ycS S) (hp M) = _
    have h2 := yst1_ok L i (.inr (.inr v))
    unfold xast
    simp only [ycv] at h2 ⊢
    rw [ycL_len, if_pos hi, h2]
    rfl) k
theorem x_astore_n {j : Fin 4} {len : Nat} {w : Value} {i z : Nat} {v : Nat} {L' : yL} (hC : C pc = some (.astore_n j, len, w, i, z)) (hi : i < L.length) (hL : yst1 L i (.inr (.inr v)) = L') (k : XW C d rt Q (pc + len) L' S M) : XW C d rt Q pc L (.inr (.inr v) :: S) M :=
  XW.step hC rfl rfl (by
    subst hL
    show xast (ycL L) i (pc + len) (ycv (.inr (.inr v)) :: ycS S) (hp M) = _
    have h2 := yst1_ok L i (.inr (.inr v))
    unfold xast
    simp only [ycv] at h2 ⊢
    rw [ycL_len, if_pos hi, h2]
    rfl) k
theorem x_iinc {j : Nat} {n : Int} {len : Nat} {w : Int32} {i z : Nat} {x : Int} {L' : yL} (v : Int) (hC : C pc = some (.iinc j n, len, .int w, i, z)) (hv : w = Int32.ofInt v) (hx : L[i]? = some (some (.inl x))) (hL : yst1 L i (.inl (x + v)) = L') (k : XW C d rt Q (pc + len) L' S M) : XW C d rt Q pc L S M :=
  XW.step hC rfl rfl (by
    subst hL; subst hv
    show xinc (ycL L) i (.int (Int32.ofInt v)) (pc + len) (ycS S) (hp M) = _
    have h2 := yst1_ok L i (.inl (x + v))
    unfold xinc
    rw [ycL_at hx]
    simp only [ycv, Option.map_some, Int32.ofInt_add] at h2 ⊢
    rw [h2]
    rfl) k
theorem x_iadd {a : xA} {x y : Int} (hC : C pc = some (.iadd, 1, a)) (k : XW C d rt Q (pc + 1) L (.inl (x + y) :: S) M) : XW C d rt Q pc L (.inl y :: .inl x :: S) M :=
  XW.step hC rfl rfl (by show xgo _ _ _ _ = xgo _ _ _ _; simp only [ycS, List.map_cons, ycv, Int32.ofInt_add]) k
theorem x_isub {a : xA} {x y : Int} (hC : C pc = some (.isub, 1, a)) (k : XW C d rt Q (pc + 1) L (.inl (x - y) :: S) M) : XW C d rt Q pc L (.inl y :: .inl x :: S) M :=
  XW.step hC rfl rfl (by show xgo _ _ _ _ = xgo _ _ _ _; simp only [ycS, List.map_cons, ycv, Int32.ofInt_sub]) k
theorem x_imul {a : xA} {x y : Int} (hC : C pc = some (.imul, 1, a)) (k : XW C d rt Q (pc + 1) L (.inl (x * y) :: S) M) : XW C d rt Q pc L (.inl y :: .inl x :: S) M :=
  XW.step hC rfl rfl (by show xgo _ _ _ _ = xgo _ _ _ _; simp only [ycS, List.map_cons, ycv, Int32.ofInt_mul]) k
theorem x_iand {a : xA} {x y : Int} (hC : C pc = some (.iand, 1, a)) (k : XW C d rt Q (pc + 1) L (.inl (yand x y) :: S) M) : XW C d rt Q pc L (.inl y :: .inl x :: S) M :=
  XW.step hC rfl rfl (by show xgo _ _ _ _ = xgo _ _ _ _; simp only [ycS, List.map_cons, ycv, yand, Int32.ofInt_toInt]) k
theorem x_ior {a : xA} {x y : Int} (hC : C pc = some (.ior, 1, a)) (k : XW C d rt Q (pc + 1) L (.inl (yor x y) :: S) M) : XW C d rt Q pc L (.inl y :: .inl x :: S) M :=
  XW.step hC rfl rfl (by show xgo _ _ _ _ = xgo _ _ _ _; simp only [ycS, List.map_cons, ycv, yor, Int32.ofInt_toInt]) k
theorem x_ixor {a : xA} {x y : Int} (hC : C pc = some (.ixor, 1, a)) (k : XW C d rt Q (pc + 1) L (.inl (yxor x y) :: S) M) : XW C d rt Q pc L (.inl y :: .inl x :: S) M :=
  XW.step hC rfl rfl (by show xgo _ _ _ _ = xgo _ _ _ _; simp only [ycS, List.map_cons, ycv, yxor, Int32.ofInt_toInt]) k
theorem x_ishl {a : xA} {x y : Int} (hC : C pc = some (.ishl, 1, a)) (k : XW C d rt Q (pc + 1) L (.inl (yshl x y) :: S) M) : XW C d rt Q pc L (.inl y :: .inl x :: S) M :=
  XW.step hC rfl rfl (by show xgo _ _ _ _ = xgo _ _ _ _; simp only [ycS, List.map_cons, ycv, yshl, Int32.ofInt_toInt]) k
theorem x_ishr {a : xA} {x y : Int} (hC : C pc = some (.ishr, 1, a)) (k : XW C d rt Q (pc + 1) L (.inl (yshr x y) :: S) M) : XW C d rt Q pc L (.inl y :: .inl x :: S) M :=
  XW.step hC rfl rfl (by show xgo _ _ _ _ = xgo _ _ _ _; simp only [ycS, List.map_cons, ycv, yshr, Int32.ofInt_toInt]) k
theorem x_iushr {a : xA} {x y : Int} (hC : C pc = some (.iushr, 1, a)) (k : XW C d rt Q (pc + 1) L (.inl (yushr x y) :: S) M) : XW C d rt Q pc L (.inl y :: .inl x :: S) M :=
  XW.step hC rfl rfl (by show xgo _ _ _ _ = xgo _ _ _ _; simp only [ycS, List.map_cons, ycv, yushr, Int32.ofInt_toInt]) k
theorem x_idiv {a : xA} {x y : Int} (hC : C pc = some (.idiv, 1, a)) (hy : -2147483648 ≤ y ∧ y < 2147483648) (h0 : y ≠ 0) (k : XW C d rt Q (pc + 1) L (.inl (ydiv x y) :: S) M) : XW C d rt Q pc L (.inl y :: .inl x :: S) M :=
  XW.step hC rfl rfl (by
    have h1 : ¬ Int32.ofInt y = 0 := by rw [yof_0, yof_eq hy (by omega)]; exact h0
    show (if Int32.ofInt y = 0 then none else xgo _ _ _ _) = xgo _ _ _ _
    rw [if_neg h1]
    simp only [ycS, List.map_cons, ycv, ydiv, Int32.ofInt_toInt]) k
theorem x_irem {a : xA} {x y : Int} (hC : C pc = some (.irem, 1, a)) (hy : -2147483648 ≤ y ∧ y < 2147483648) (h0 : y ≠ 0) (k : XW C d rt Q (pc + 1) L (.inl (yrem x y) :: S) M) : XW C d rt Q pc L (.inl y :: .inl x :: S) M :=
  XW.step hC rfl rfl (by
    have h1 : ¬ Int32.ofInt y = 0 := by rw [yof_0, yof_eq hy (by omega)]; exact h0
    show (if Int32.ofInt y = 0 then none else xgo _ _ _ _) = xgo _ _ _ _
    rw [if_neg h1]
    simp only [ycS, List.map_cons, ycv, yrem, Int32.ofInt_toInt]) k
theorem x_ladd {a : xA} {x y : Int} (hC : C pc = some (.ladd, 1, a)) (k : XW C d rt Q (pc + 1) L (.inr (.inl (x + y)) :: S) M) : XW C d rt Q pc L (.inr (.inl y) :: .inr (.inl x) :: S) M :=
  XW.step hC rfl rfl (by show xgo _ _ _ _ = xgo _ _ _ _; simp only [ycS, List.map_cons, ycv, Int64.ofInt_add]) k
theorem x_lsub {a : xA} {x y : Int} (hC : C pc = some (.lsub, 1, a)) (k : XW C d rt Q (pc + 1) L (.inr (.inl (x - y)) :: S) M) : XW C d rt Q pc L (.inr (.inl y) :: .inr (.inl x) :: S) M :=
  XW.step hC rfl rfl (by show xgo _ _ _ _ = xgo _ _ _ _; simp only [ycS, List.map_cons, ycv, Int64.ofInt_sub]) k
theorem x_land {a : xA} {x y : Int} (hC : C pc = some (.land, 1, a)) (k : XW C d rt Q (pc + 1) L (.inr (.inl (zand x y)) :: S) M) : XW C d rt Q pc L (.inr (.inl y) :: .inr (.inl x) :: S) M :=
  XW.step hC rfl rfl (by show xgo _ _ _ _ = xgo _ _ _ _; simp only [ycS, List.map_cons, ycv, zand, Int64.ofInt_toInt]) k
theorem x_lor {a : xA} {x y : Int} (hC : C pc = some (.lor, 1, a)) (k : XW C d rt Q (pc + 1) L (.inr (.inl (zor x y)) :: S) M) : XW C d rt Q pc L (.inr (.inl y) :: .inr (.inl x) :: S) M :=
  XW.step hC rfl rfl (by show xgo _ _ _ _ = xgo _ _ _ _; simp only [ycS, List.map_cons, ycv, zor, Int64.ofInt_toInt]) k
theorem x_lxor {a : xA} {x y : Int} (hC : C pc = some (.lxor, 1, a)) (k : XW C d rt Q (pc + 1) L (.inr (.inl (zxor x y)) :: S) M) : XW C d rt Q pc L (.inr (.inl y) :: .inr (.inl x) :: S) M :=
  XW.step hC rfl rfl (by show xgo _ _ _ _ = xgo _ _ _ _; simp only [ycS, List.map_cons, ycv, zxor, Int64.ofInt_toInt]) k
theorem x_lshl {a : xA} {x y : Int} (hC : C pc = some (.lshl, 1, a)) (k : XW C d rt Q (pc + 1) L (.inr (.inl (zshl x y)) :: S) M) : XW C d rt Q pc L (.inl y :: .inr (.inl x) :: S) M :=
  XW.step hC rfl rfl (by show xgo _ _ _ _ = xgo _ _ _ _; simp only [ycS, List.map_cons, ycv, zshl, Int64.ofInt_toInt]) k
theorem x_lshr {a : xA} {x y : Int} (hC : C pc = some (.lshr, 1, a)) (k : XW C d rt Q (pc + 1) L (.inr (.inl (zshr x y)) :: S) M) : XW C d rt Q pc L (.inl y :: .inr (.inl x) :: S) M :=
  XW.step hC rfl rfl (by show xgo _ _ _ _ = xgo _ _ _ _; simp only [ycS, List.map_cons, ycv, zshr, Int64.ofInt_toInt]) k
theorem x_lushr {a : xA} {x y : Int} (hC : C pc = some (.lushr, 1, a)) (k : XW C d rt Q (pc + 1) L (.inr (.inl (zushr x y)) :: S) M) : XW C d rt Q pc L (.inl y :: .inr (.inl x) :: S) M :=
  XW.step hC rfl rfl (by show xgo _ _ _ _ = xgo _ _ _ _; simp only [ycS, List.map_cons, ycv, zushr, Int64.ofInt_toInt]) k
theorem x_ineg {a : xA} {x : Int} (hC : C pc = some (.ineg, 1, a)) (k : XW C d rt Q (pc + 1) L (.inl (-x) :: S) M) : XW C d rt Q pc L (.inl x :: S) M :=
  XW.step hC rfl rfl (by show xgo _ _ _ _ = xgo _ _ _ _; simp only [ycS, List.map_cons, ycv, Int32.ofInt_neg]) k
theorem x_lneg {a : xA} {x : Int} (hC : C pc = some (.lneg, 1, a)) (k : XW C d rt Q (pc + 1) L (.inr (.inl (-x)) :: S) M) : XW C d rt Q pc L (.inr (.inl x) :: S) M :=
  XW.step hC rfl rfl (by show xgo _ _ _ _ = xgo _ _ _ _; simp only [ycS, List.map_cons, ycv, Int64.ofInt_neg]) k
theorem x_i2l {a : xA} {x : Int} (hC : C pc = some (.i2l, 1, a)) (hx : -2147483648 ≤ x ∧ x < 2147483648) (k : XW C d rt Q (pc + 1) L (.inr (.inl x) :: S) M) : XW C d rt Q pc L (.inl x :: S) M :=
  XW.step hC rfl rfl (by
    have h : (Int32.ofInt x).toInt64 = Int64.ofInt x := by
      apply Int64.toInt_inj.mp
      rw [Int32.toInt_toInt64, Int32.toInt_ofInt_of_le hx.1 hx.2, Int64.toInt_ofInt_of_le (by omega) (by omega)]
    show xgo _ _ _ _ = xgo _ _ _ _
    simp only [ycS, List.map_cons, ycv, h]) k
theorem x_l2i {a : xA} {x : Int} (hC : C pc = some (.l2i, 1, a)) (k : XW C d rt Q (pc + 1) L (.inl x :: S) M) : XW C d rt Q pc L (.inr (.inl x) :: S) M :=
  XW.step hC rfl rfl (by show xgo _ _ _ _ = xgo _ _ _ _; simp only [ycS, List.map_cons, ycv, Int64.toInt32_ofInt]) k
theorem x_lcmp {a : xA} {x y : Int} (hC : C pc = some (.lcmp, 1, a)) (k : XW C d rt Q (pc + 1) L (.inl (zcmp x y) :: S) M) : XW C d rt Q pc L (.inr (.inl y) :: .inr (.inl x) :: S) M :=
  XW.step hC rfl rfl (by show xgo _ _ _ _ = xgo _ _ _ _; simp only [ycS, List.map_cons, ycv, zcmp, Int32.ofInt_toInt]) k
theorem x_ifeq {off : Int} {v : Value} {tgt z : Nat} {x : Int} (hC : C pc = some (.ifCond .eq off, 3, v, tgt, z)) (hx : -2147483648 ≤ x ∧ x < 2147483648) (kt : x = 0 → XW C d rt Q tgt L S M) (kf : x ≠ 0 → XW C d rt Q (pc + 3) L S M) : XW C d rt Q pc L (.inl x :: S) M := by
  have e := (yof_eq (y := 0) hx (by omega))
  by_cases h : x = 0
  · refine XW.step hC rfl rfl ?_ (kt h)
    show (if decide (Int32.ofInt x = Int32.ofInt 0) = true then xgo tgt _ _ _ else xgo (pc + 3) _ _ _) = xgo tgt _ _ _
    rw [if_pos (by rw [decide_eq_true_eq, e]; exact h)]; rfl
  · refine XW.step hC rfl rfl ?_ (kf (by omega))
    show (if decide (Int32.ofInt x = Int32.ofInt 0) = true then xgo tgt _ _ _ else xgo (pc + 3) _ _ _) = xgo (pc + 3) _ _ _
    rw [if_neg (by rw [decide_eq_true_eq, e]; exact h)]; rfl
theorem x_ifne {off : Int} {v : Value} {tgt z : Nat} {x : Int} (hC : C pc = some (.ifCond .ne off, 3, v, tgt, z)) (hx : -2147483648 ≤ x ∧ x < 2147483648) (kt : x ≠ 0 → XW C d rt Q tgt L S M) (kf : x = 0 → XW C d rt Q (pc + 3) L S M) : XW C d rt Q pc L (.inl x :: S) M := by
  have e := (yof_eq (y := 0) hx (by omega))
  by_cases h : x ≠ 0
  · refine XW.step hC rfl rfl ?_ (kt h)
    show (if decide (¬ Int32.ofInt x = Int32.ofInt 0) = true then xgo tgt _ _ _ else xgo (pc + 3) _ _ _) = xgo tgt _ _ _
    rw [if_pos (by rw [decide_eq_true_eq, e]; exact h)]; rfl
  · refine XW.step hC rfl rfl ?_ (kf (by omega))
    show (if decide (¬ Int32.ofInt x = Int32.ofInt 0) = true then xgo tgt _ _ _ else xgo (pc + 3) _ _ _) = xgo (pc + 3) _ _ _
    rw [if_neg (by rw [decide_eq_true_eq, e]; exact h)]; rfl
theorem x_iflt {off : Int} {v : Value} {tgt z : Nat} {x : Int} (hC : C pc = some (.ifCond .lt off, 3, v, tgt, z)) (hx : -2147483648 ≤ x ∧ x < 2147483648) (kt : x < 0 → XW C d rt Q tgt L S M) (kf : 0 ≤ x → XW C d rt Q (pc + 3) L S M) : XW C d rt Q pc L (.inl x :: S) M := by
  have e := (yof_lt (y := 0) hx (by omega))
  by_cases h : x < 0
  · refine XW.step hC rfl rfl ?_ (kt h)
    show (if decide (Int32.ofInt x < Int32.ofInt 0) = true then xgo tgt _ _ _ else xgo (pc + 3) _ _ _) = xgo tgt _ _ _
    rw [if_pos (by rw [decide_eq_true_eq, e]; exact h)]; rfl
  · refine XW.step hC rfl rfl ?_ (kf (by omega))
    show (if decide (Int32.ofInt x < Int32.ofInt 0) = true then xgo tgt _ _ _ else xgo (pc + 3) _ _ _) = xgo (pc + 3) _ _ _
    rw [if_neg (by rw [decide_eq_true_eq, e]; exact h)]; rfl
theorem x_ifge {off : Int} {v : Value} {tgt z : Nat} {x : Int} (hC : C pc = some (.ifCond .ge off, 3, v, tgt, z)) (hx : -2147483648 ≤ x ∧ x < 2147483648) (kt : 0 ≤ x → XW C d rt Q tgt L S M) (kf : x < 0 → XW C d rt Q (pc + 3) L S M) : XW C d rt Q pc L (.inl x :: S) M := by
  have e := (yof_le (x := 0) (by omega) hx)
  by_cases h : 0 ≤ x
  · refine XW.step hC rfl rfl ?_ (kt h)
    show (if decide (Int32.ofInt 0 ≤ Int32.ofInt x) = true then xgo tgt _ _ _ else xgo (pc + 3) _ _ _) = xgo tgt _ _ _
    rw [if_pos (by rw [decide_eq_true_eq, e]; exact h)]; rfl
  · refine XW.step hC rfl rfl ?_ (kf (by omega))
    show (if decide (Int32.ofInt 0 ≤ Int32.ofInt x) = true then xgo tgt _ _ _ else xgo (pc + 3) _ _ _) = xgo (pc + 3) _ _ _
    rw [if_neg (by rw [decide_eq_true_eq, e]; exact h)]; rfl
theorem x_ifgt {off : Int} {v : Value} {tgt z : Nat} {x : Int} (hC : C pc = some (.ifCond .gt off, 3, v, tgt, z)) (hx : -2147483648 ≤ x ∧ x < 2147483648) (kt : 0 < x → XW C d rt Q tgt L S M) (kf : x ≤ 0 → XW C d rt Q (pc + 3) L S M) : XW C d rt Q pc L (.inl x :: S) M := by
  have e := (yof_lt (x := 0) (by omega) hx)
  by_cases h : 0 < x
  · refine XW.step hC rfl rfl ?_ (kt h)
    show (if decide (Int32.ofInt 0 < Int32.ofInt x) = true then xgo tgt _ _ _ else xgo (pc + 3) _ _ _) = xgo tgt _ _ _
    rw [if_pos (by rw [decide_eq_true_eq, e]; exact h)]; rfl
  · refine XW.step hC rfl rfl ?_ (kf (by omega))
    show (if decide (Int32.ofInt 0 < Int32.ofInt x) = true then xgo tgt _ _ _ else xgo (pc + 3) _ _ _) = xgo (pc + 3) _ _ _
    rw [if_neg (by rw [decide_eq_true_eq, e]; exact h)]; rfl
theorem x_ifle {off : Int} {v : Value} {tgt z : Nat} {x : Int} (hC : C pc = some (.ifCond .le off, 3, v, tgt, z)) (hx : -2147483648 ≤ x ∧ x < 2147483648) (kt : x ≤ 0 → XW C d rt Q tgt L S M) (kf : 0 < x → XW C d rt Q (pc + 3) L S M) : XW C d rt Q pc L (.inl x :: S) M := by
  have e := (yof_le (y := 0) hx (by omega))
  by_cases h : x ≤ 0
  · refine XW.step hC rfl rfl ?_ (kt h)
    show (if decide (Int32.ofInt x ≤ Int32.ofInt 0) = true then xgo tgt _ _ _ else xgo (pc + 3) _ _ _) = xgo tgt _ _ _
    rw [if_pos (by rw [decide_eq_true_eq, e]; exact h)]; rfl
  · refine XW.step hC rfl rfl ?_ (kf (by omega))
    show (if decide (Int32.ofInt x ≤ Int32.ofInt 0) = true then xgo tgt _ _ _ else xgo (pc + 3) _ _ _) = xgo (pc + 3) _ _ _
    rw [if_neg (by rw [decide_eq_true_eq, e]; exact h)]; rfl
theorem x_icmpeq {off : Int} {v : Value} {tgt z : Nat} {x y : Int} (hC : C pc = some (.if_icmp .eq off, 3, v, tgt, z)) (hx : -2147483648 ≤ x ∧ x < 2147483648) (hy : -2147483648 ≤ y ∧ y < 2147483648) (kt : x = y → XW C d rt Q tgt L S M) (kf : x ≠ y → XW C d rt Q (pc + 3) L S M) : XW C d rt Q pc L (.inl y :: .inl x :: S) M := by
  have e := (yof_eq hx hy)
  by_cases h : x = y
  · refine XW.step hC rfl rfl ?_ (kt h)
    show (if decide (Int32.ofInt x = Int32.ofInt y) = true then xgo tgt _ _ _ else xgo (pc + 3) _ _ _) = xgo tgt _ _ _
    rw [if_pos (by rw [decide_eq_true_eq, e]; exact h)]; rfl
  · refine XW.step hC rfl rfl ?_ (kf (by omega))
    show (if decide (Int32.ofInt x = Int32.ofInt y) = true then xgo tgt _ _ _ else xgo (pc + 3) _ _ _) = xgo (pc + 3) _ _ _
    rw [if_neg (by rw [decide_eq_true_eq, e]; exact h)]; rfl
theorem x_icmpne {off : Int} {v : Value} {tgt z : Nat} {x y : Int} (hC : C pc = some (.if_icmp .ne off, 3, v, tgt, z)) (hx : -2147483648 ≤ x ∧ x < 2147483648) (hy : -2147483648 ≤ y ∧ y < 2147483648) (kt : x ≠ y → XW C d rt Q tgt L S M) (kf : x = y → XW C d rt Q (pc + 3) L S M) : XW C d rt Q pc L (.inl y :: .inl x :: S) M := by
  have e := (yof_eq hx hy)
  by_cases h : x ≠ y
  · refine XW.step hC rfl rfl ?_ (kt h)
    show (if decide (¬ Int32.ofInt x = Int32.ofInt y) = true then xgo tgt _ _ _ else xgo (pc + 3) _ _ _) = xgo tgt _ _ _
    rw [if_pos (by rw [decide_eq_true_eq, e]; exact h)]; rfl
  · refine XW.step hC rfl rfl ?_ (kf (by omega))
    show (if decide (¬ Int32.ofInt x = Int32.ofInt y) = true then xgo tgt _ _ _ else xgo (pc + 3) _ _ _) = xgo (pc + 3) _ _ _
    rw [if_neg (by rw [decide_eq_true_eq, e]; exact h)]; rfl
theorem x_icmplt {off : Int} {v : Value} {tgt z : Nat} {x y : Int} (hC : C pc = some (.if_icmp .lt off, 3, v, tgt, z)) (hx : -2147483648 ≤ x ∧ x < 2147483648) (hy : -2147483648 ≤ y ∧ y < 2147483648) (kt : x < y → XW C d rt Q tgt L S M) (kf : y ≤ x → XW C d rt Q (pc + 3) L S M) : XW C d rt Q pc L (.inl y :: .inl x :: S) M := by
  have e := (yof_lt hx hy)
  by_cases h : x < y
  · refine XW.step hC rfl rfl ?_ (kt h)
    show (if decide (Int32.ofInt x < Int32.ofInt y) = true then xgo tgt _ _ _ else xgo (pc + 3) _ _ _) = xgo tgt _ _ _
    rw [if_pos (by rw [decide_eq_true_eq, e]; exact h)]; rfl
  · refine XW.step hC rfl rfl ?_ (kf (by omega))
    show (if decide (Int32.ofInt x < Int32.ofInt y) = true then xgo tgt _ _ _ else xgo (pc + 3) _ _ _) = xgo (pc + 3) _ _ _
    rw [if_neg (by rw [decide_eq_true_eq, e]; exact h)]; rfl
theorem x_icmpge {off : Int} {v : Value} {tgt z : Nat} {x y : Int} (hC : C pc = some (.if_icmp .ge off, 3, v, tgt, z)) (hx : -2147483648 ≤ x ∧ x < 2147483648) (hy : -2147483648 ≤ y ∧ y < 2147483648) (kt : y ≤ x → XW C d rt Q tgt L S M) (kf : x < y → XW C d rt Q (pc + 3) L S M) : XW C d rt Q pc L (.inl y :: .inl x :: S) M := by
  have e := (yof_le hy hx)
  by_cases h : y ≤ x
  · refine XW.step hC rfl rfl ?_ (kt h)
    show (if decide (Int32.ofInt y ≤ Int32.ofInt x) = true then xgo tgt _ _ _ else xgo (pc + 3) _ _ _) = xgo tgt _ _ _
    rw [if_pos (by rw [decide_eq_true_eq, e]; exact h)]; rfl
  · refine XW.step hC rfl rfl ?_ (kf (by omega))
    show (if decide (Int32.ofInt y ≤ Int32.ofInt x) = true then xgo tgt _ _ _ else xgo (pc + 3) _ _ _) = xgo (pc + 3) _ _ _
    rw [if_neg (by rw [decide_eq_true_eq, e]; exact h)]; rfl
theorem x_icmpgt {off : Int} {v : Value} {tgt z : Nat} {x y : Int} (hC : C pc = some (.if_icmp .gt off, 3, v, tgt, z)) (hx : -2147483648 ≤ x ∧ x < 2147483648) (hy : -2147483648 ≤ y ∧ y < 2147483648) (kt : y < x → XW C d rt Q tgt L S M) (kf : x ≤ y → XW C d rt Q (pc + 3) L S M) : XW C d rt Q pc L (.inl y :: .inl x :: S) M := by
  have e := (yof_lt hy hx)
  by_cases h : y < x
  · refine XW.step hC rfl rfl ?_ (kt h)
    show (if decide (Int32.ofInt y < Int32.ofInt x) = true then xgo tgt _ _ _ else xgo (pc + 3) _ _ _) = xgo tgt _ _ _
    rw [if_pos (by rw [decide_eq_true_eq, e]; exact h)]; rfl
  · refine XW.step hC rfl rfl ?_ (kf (by omega))
    show (if decide (Int32.ofInt y < Int32.ofInt x) = true then xgo tgt _ _ _ else xgo (pc + 3) _ _ _) = xgo (pc + 3) _ _ _
    rw [if_neg (by rw [decide_eq_true_eq, e]; exact h)]; rfl
theorem x_icmple {off : Int} {v : Value} {tgt z : Nat} {x y : Int} (hC : C pc = some (.if_icmp .le off, 3, v, tgt, z)) (hx : -2147483648 ≤ x ∧ x < 2147483648) (hy : -2147483648 ≤ y ∧ y < 2147483648) (kt : x ≤ y → XW C d rt Q tgt L S M) (kf : y < x → XW C d rt Q (pc + 3) L S M) : XW C d rt Q pc L (.inl y :: .inl x :: S) M := by
  have e := (yof_le hx hy)
  by_cases h : x ≤ y
  · refine XW.step hC rfl rfl ?_ (kt h)
    show (if decide (Int32.ofInt x ≤ Int32.ofInt y) = true then xgo tgt _ _ _ else xgo (pc + 3) _ _ _) = xgo tgt _ _ _
    rw [if_pos (by rw [decide_eq_true_eq, e]; exact h)]; rfl
  · refine XW.step hC rfl rfl ?_ (kf (by omega))
    show (if decide (Int32.ofInt x ≤ Int32.ofInt y) = true then xgo tgt _ _ _ else xgo (pc + 3) _ _ _) = xgo (pc + 3) _ _ _
    rw [if_neg (by rw [decide_eq_true_eq, e]; exact h)]; rfl
theorem x_goto {off : Int} {v : Value} {tgt z : Nat} (hC : C pc = some (.goto off, 3, v, tgt, z)) (k : XW C d rt Q tgt L S M) : XW C d rt Q pc L S M :=
  XW.step hC rfl rfl rfl k
theorem x_tsw {a : xA} {df lo hi : Int} {offs : Array Int} {len : Nat} {x : Int} {q : Nat} (hC : C pc = some (.tableswitch df lo hi offs, len, a)) (hq : xtab (Int32.ofInt x) lo (offs.toList.map fun o => ((pc : Int) + o).toNat) ((pc : Int) + df).toNat = q) (k : XW C d rt Q q L S M) : XW C d rt Q pc L (.inl x :: S) M :=
  XW.step hC rfl rfl (by subst hq; rfl) k
theorem x_lsw {a : xA} {df : Int} {ps : Array (Int × Int)} {len : Nat} {x : Int} {q : Nat} (hC : C pc = some (.lookupswitch df ps, len, a)) (hq : ((pc : Int) + Jvm.Op.lookupswitch.offset ps.toList df (Int32.ofInt x).toInt).toNat = q) (k : XW C d rt Q q L S M) : XW C d rt Q pc L (.inl x :: S) M :=
  XW.step hC rfl rfl (by subst hq; rfl) k
theorem x_dupi {a : xA} {x : Int} (hC : C pc = some (.dup, 1, a)) (k : XW C d rt Q (pc + 1) L (.inl x :: .inl x :: S) M) : XW C d rt Q pc L (.inl x :: S) M :=
  XW.step hC rfl rfl rfl k
theorem x_dupa {a : xA} {x : Nat} (hC : C pc = some (.dup, 1, a)) (k : XW C d rt Q (pc + 1) L (.inr (.inr x) :: .inr (.inr x) :: S) M) : XW C d rt Q pc L (.inr (.inr x) :: S) M :=
  XW.step hC rfl rfl rfl k
/-- an index and a row -/
theorem x_dup2 {a : xA} {x : Int} {r : Nat} (hC : C pc = some (.dup2, 1, a)) (k : XW C d rt Q (pc + 1) L (.inl x :: .inr (.inr r) :: .inl x :: .inr (.inr r) :: S) M) : XW C d rt Q pc L (.inl x :: .inr (.inr r) :: S) M :=
  XW.step hC rfl rfl rfl k
theorem x_popi {a : xA} {x : Int} (hC : C pc = some (.pop, 1, a)) (k : XW C d rt Q (pc + 1) L S M) : XW C d rt Q pc L (.inl x :: S) M :=
  XW.step hC rfl rfl rfl k
theorem x_pop2 {a : xA} {x : Int} (hC : C pc = some (.pop2, 1, a)) (k : XW C d rt Q (pc + 1) L S M) : XW C d rt Q pc L (.inr (.inl x) :: S) M :=
  XW.step hC rfl rfl rfl k
theorem xget_ok {o ci k : Nat} {fs : List (Nat × Nat)} {f : Nat × Nat} (hs : shT[o]? = some (.inl (ci, fs))) (hf : fs[k]? = some f) : xget ci k pc (ycL L) (ycS (.inr (.inr o) :: S)) (hp M) = xgo (pc + 3) (ycL L) (yfv M o k f :: ycS S) (hp M) := by
  show xget ci k pc (ycL L) (.ref o :: ycS S) (hp M) = _
  unfold xget
  have h1 := yfs_at (M := M) (o := o) fs 0 k f hf
  rw [Nat.zero_add] at h1
  simp only [hp_at hs, yob, h1, if_true]
theorem x_getI {i : Nat} {v : Value} {o ci k : Nat} {fs : List (Nat × Nat)} {w : Nat} (hC : C pc = some (.getfield i, 3, v, ci, k)) (hs : shT[o]? = some (.inl (ci, fs))) (hf : fs[k]? = some (0, w)) (kk : XW C d rt Q (pc + 3) L (.inl (ld M o k) :: S) M) : XW C d rt Q pc L (.inr (.inr o) :: S) M :=
  XW.step hC rfl rfl ((xget_ok hs hf).trans (by show xgo _ _ (.int (M.1 o k) :: _) _ = xgo _ _ (.int (Int32.ofInt (ld M o k)) :: _) _; unfold ld; rw [Int32.ofInt_toInt]; rfl)) kk
theorem x_getL {i : Nat} {v : Value} {o ci k : Nat} {fs : List (Nat × Nat)} {w : Nat} (hC : C pc = some (.getfield i, 3, v, ci, k)) (hs : shT[o]? = some (.inl (ci, fs))) (hf : fs[k]? = some (1, w)) (kk : XW C d rt Q (pc + 3) L (.inr (.inl (ldL M o k)) :: S) M) : XW C d rt Q pc L (.inr (.inr o) :: S) M :=
  XW.step hC rfl rfl ((xget_ok hs hf).trans (by show xgo _ _ (.long (M.2 o k) :: _) _ = xgo _ _ (.long (Int64.ofInt (ldL M o k)) :: _) _; unfold ldL; rw [Int64.ofInt_toInt]; rfl)) kk
theorem x_getR {i : Nat} {v : Value} {o ci k : Nat} {fs : List (Nat × Nat)} {w : Nat} (hC : C pc = some (.getfield i, 3, v, ci, k)) (hs : shT[o]? = some (.inl (ci, fs))) (hf : fs[k]? = some (2, w)) (kk : XW C d rt Q (pc + 3) L (.inr (.inr w) :: S) M) : XW C d rt Q pc L (.inr (.inr o) :: S) M :=
  XW.step hC rfl rfl (by exact xget_ok hs hf) kk
theorem xput_ok {ty : FieldType} {o ci k : Nat} {fs : List (Nat × Nat)} {f : Nat × Nat} {u : yV} {M' : yM} (hs : shT[o]? = some (.inl (ci, fs))) (hf : fs[k]? = some f) (hfit : xfit ty (ycv u) = true) (h0 : ycv u = yfv M' o k f) (h1 : ∀ j g, j ≠ k → yfv M' o j g = yfv M o j g) (h2 : (hp M).set o (yob M' o (.inl (ci, fs))) = hp M') : xput ty ci k pc (ycL L) (ycS (u :: .inr (.inr o) :: S)) (hp M) = xgo (pc + 3) (ycL L) (ycS S) (hp M') := by
  show xput ty ci k pc (ycL L) (ycv u :: .ref o :: ycS S) (hp M) = _
  unfold xput
  simp only [hp_at hs, yob]
  have hk : k < (yfs M o 0 fs).length := by
    rw [yfs_len]
    have := List.getElem?_eq_some_iff.mp hf
    exact this.1
  rw [if_pos ⟨trivial, hk, hfit⟩, h0, yfs_set h1 fs 0 k f hf (Nat.zero_add k)]
  show xgo _ _ _ ((hp M).set o (yob M' o (.inl (ci, fs)))) = _
  rw [h2]
theorem x_putI {i : Nat} {v : Value} {o ci k : Nat} {fs : List (Nat × Nat)} {w : Nat} {x : Int} (hC : C pc = some (.putfield i, 3, v, ci, k)) (hty : xty ci k = .int) (hs : shT[o]? = some (.inl (ci, fs))) (hf : fs[k]? = some (0, w)) (kk : XW C d rt Q (pc + 3) L S (put M o k x)) : XW C d rt Q pc L (.inl x :: .inr (.inr o) :: S) M :=
  XW.step hC rfl rfl (xput_ok hs hf (by rw [hty]; rfl) (by show _ = Value.int ((put M o k x).1 o k); rw [put_1, if_pos ⟨rfl, rfl⟩]; rfl) (fun j g hj => yfv_put hj g) (hp_put hs)) kk
theorem x_putZ {i : Nat} {v : Value} {o ci k : Nat} {fs : List (Nat × Nat)} {w : Nat} {x : Int} (hC : C pc = some (.putfield i, 3, v, ci, k)) (hty : xty ci k = .boolean) (hs : shT[o]? = some (.inl (ci, fs))) (hf : fs[k]? = some (0, w)) (hx : x = 0 ∨ x = 1) (kk : XW C d rt Q (pc + 3) L S (put M o k x)) : XW C d rt Q pc L (.inl x :: .inr (.inr o) :: S) M :=
  XW.step hC rfl rfl (xput_ok hs hf (by rw [hty]; rcases hx with rfl | rfl <;> rfl) (by show _ = Value.int ((put M o k x).1 o k); rw [put_1, if_pos ⟨rfl, rfl⟩]; rfl) (fun j g hj => yfv_put hj g) (hp_put hs)) kk
theorem x_putL {i : Nat} {v : Value} {o ci k : Nat} {fs : List (Nat × Nat)} {w : Nat} {x : Int} (hC : C pc = some (.putfield i, 3, v, ci, k)) (hty : xty ci k = .long) (hs : shT[o]? = some (.inl (ci, fs))) (hf : fs[k]? = some (1, w)) (kk : XW C d rt Q (pc + 3) L S (putL M o k x)) : XW C d rt Q pc L (.inr (.inl x) :: .inr (.inr o) :: S) M :=
  XW.step hC rfl rfl (xput_ok hs hf (by rw [hty]; rfl) (by show _ = Value.long ((putL M o k x).2 o k); rw [putL_2, if_pos ⟨rfl, rfl⟩]; rfl) (fun j g hj => yfv_putL hj g) (hp_putL hs)) kk
theorem x_iaload {a : xA} {o n : Nat} {rs : List Nat} {j : Int} (hC : C pc = some (.iaload, 1, a)) (hs : shT[o]? = some (.inr (0, n, rs)) ∧ n ≤ 100000) (hj : 0 ≤ j ∧ j < n) (k : XW C d rt Q (pc + 1) L (.inl (ld M o j) :: S) M) : XW C d rt Q pc L (.inl j :: .inr (.inr o) :: S) M :=
  XW.step hC rfl rfl (by
    show xaldI 0 pc (ycL L) (.int (Int32.ofInt j) :: .ref o :: ycS S) (hp M) = _
    have h1 := yix hj hs.2
    unfold xaldI
    simp only [hp_at hs.1, yob, yct, h1.1, and_self, if_true, h1.2]
    rw [Int.toNat_of_nonneg hj.1]
    show xgo _ _ (.int (M.1 o j) :: _) _ = xgo _ _ (.int (Int32.ofInt (ld M o j)) :: _) _
    unfold ld
    rw [Int32.ofInt_toInt]
    rfl) k
theorem x_baload {a : xA} {o n : Nat} {rs : List Nat} {j : Int} (hC : C pc = some (.baload, 1, a)) (hs : shT[o]? = some (.inr (2, n, rs)) ∧ n ≤ 100000) (hj : 0 ≤ j ∧ j < n) (k : XW C d rt Q (pc + 1) L (.inl (ld M o j) :: S) M) : XW C d rt Q pc L (.inl j :: .inr (.inr o) :: S) M :=
  XW.step hC rfl rfl (by
    show xaldI 2 pc (ycL L) (.int (Int32.ofInt j) :: .ref o :: ycS S) (hp M) = _
    have h1 := yix hj hs.2
    unfold xaldI
    simp only [hp_at hs.1, yob, yct, h1.1, and_self, if_true, h1.2]
    rw [Int.toNat_of_nonneg hj.1]
    show xgo _ _ (.int (M.1 o j) :: _) _ = xgo _ _ (.int (Int32.ofInt (ld M o j)) :: _) _
    unfold ld
    rw [Int32.ofInt_toInt]
    rfl) k
theorem x_laload {a : xA} {o n : Nat} {rs : List Nat} {j : Int} (hC : C pc = some (.laload, 1, a)) (hs : shT[o]? = some (.inr (1, n, rs)) ∧ n ≤ 100000) (hj : 0 ≤ j ∧ j < n) (k : XW C d rt Q (pc + 1) L (.inr (.inl (ldL M o j)) :: S) M) : XW C d rt Q pc L (.inl j :: .inr (.inr o) :: S) M :=
  XW.step hC rfl rfl (by
    show xaldL pc (ycL L) (.int (Int32.ofInt j) :: .ref o :: ycS S) (hp M) = _
    have h1 := yix hj hs.2
    unfold xaldL
    simp only [hp_at hs.1, yob, yct, h1.1, and_self, if_true, h1.2]
    rw [Int.toNat_of_nonneg hj.1]
    show xgo _ _ (.long (M.2 o j) :: _) _ = xgo _ _ (.long (Int64.ofInt (ldL M o j)) :: _) _
    unfold ldL
    rw [Int64.ofInt_toInt]
    rfl) k
theorem x_aaload {a : xA} {o n r kd : Nat} {rs : List Nat} {j : Int} (hC : C pc = some (.aaload, 1, a)) (hs : shT[o]? = some (.inr (kd, n, rs)) ∧ n ≤ 100000) (hkd : kd = 3 ∨ kd = 4) (hj : 0 ≤ j ∧ j < n) (hr : xFr o j.toNat = some r) (k : XW C d rt Q (pc + 1) L (.inr (.inr r) :: S) M) : XW C d rt Q pc L (.inl j :: .inr (.inr o) :: S) M :=
  XW.step hC rfl rfl (by
    show xaldA pc (ycL L) (.int (Int32.ofInt j) :: .ref o :: ycS S) (hp M) = _
    have h1 := yix hj hs.2
    unfold xaldA
    rcases hkd with rfl | rfl
    · simp only [hp_at hs.1, yob, yct, h1.1, h1.2, hr, true_or, and_self, if_true]
      rfl
    · simp only [hp_at hs.1, yob, yct, h1.1, h1.2, hr, or_true, and_self, if_true]
      rfl) k
theorem yct_upd {M : yM} {o : Nat} {j x : Int} (hj : 0 ≤ j) : upd (fun i : Nat => M.1 o (i : Int)) j.toNat (Int32.ofInt x) = fun i : Nat => (put M o j x).1 o (i : Int) := by
  funext i
  rw [put_1]
  unfold upd
  by_cases h : i = j.toNat
  · rw [if_pos h, if_pos ⟨rfl, by omega⟩]
  · rw [if_neg h, if_neg (fun q => by omega)]
theorem yct_updL {M : yM} {o : Nat} {j x : Int} (hj : 0 ≤ j) : vp_updL (fun i : Nat => M.2 o (i : Int)) j.toNat (Int64.ofInt x) = fun i : Nat => (putL M o j x).2 o (i : Int) := by
  funext i
  rw [putL_2]
  unfold vp_updL
  by_cases h : i = j.toNat
  · rw [if_pos h, if_pos ⟨rfl, by omega⟩]
  · rw [if_neg h, if_neg (fun q => by omega)]
theorem x_iastore {a : xA} {o n : Nat} {rs : List Nat} {j x : Int} (hC : C pc = some (.iastore, 1, a)) (hs : shT[o]? = some (.inr (0, n, rs)) ∧ n ≤ 100000) (hj : 0 ≤ j ∧ j < n) (k : XW C d rt Q (pc + 1) L S (put M o j x)) : XW C d rt Q pc L (.inl x :: .inl j :: .inr (.inr o) :: S) M :=
  XW.step hC rfl rfl (by
    show xastI 0 pc (ycL L) (.int (Int32.ofInt x) :: .int (Int32.ofInt j) :: .ref o :: ycS S) (hp M) = _
    have h1 := yix hj hs.2
    have h2 := hp_put (M := M) (k := j) (v := x) hs.1
    unfold xastI
    simp only [hp_at hs.1, yob, yct] at h2 ⊢
    rw [if_pos ⟨trivial, h1.1, fun h => by cases h⟩, h1.2, yct_upd hj.1, h2]
    rfl) k
theorem x_bastore {a : xA} {o n : Nat} {rs : List Nat} {j x : Int} (hC : C pc = some (.bastore, 1, a)) (hs : shT[o]? = some (.inr (2, n, rs)) ∧ n ≤ 100000) (hj : 0 ≤ j ∧ j < n) (hx : x = 0 ∨ x = 1) (k : XW C d rt Q (pc + 1) L S (put M o j x)) : XW C d rt Q pc L (.inl x :: .inl j :: .inr (.inr o) :: S) M :=
  XW.step hC rfl rfl (by
    show xastI 2 pc (ycL L) (.int (Int32.ofInt x) :: .int (Int32.ofInt j) :: .ref o :: ycS S) (hp M) = _
    have h1 := yix hj hs.2
    have h2 := hp_put (M := M) (k := j) (v := x) hs.1
    unfold xastI
    simp only [hp_at hs.1, yob, yct] at h2 ⊢
    rw [if_pos ⟨trivial, h1.1, fun _ => by rcases hx with rfl | rfl; exact Or.inl rfl; exact Or.inr rfl⟩, h1.2, yct_upd hj.1, h2]
    rfl) k
theorem x_lastore {a : xA} {o n : Nat} {rs : List Nat} {j x : Int} (hC : C pc = some (.lastore, 1, a)) (hs : shT[o]? = some (.inr (1, n, rs)) ∧ n ≤ 100000) (hj : 0 ≤ j ∧ j < n) (k : XW C d rt Q (pc + 1) L S (putL M o j x)) : XW C d rt Q pc L (.inr (.inl x) :: .inl j :: .inr (.inr o) :: S) M :=
  XW.step hC rfl rfl (by
    show xastL pc (ycL L) (.long (Int64.ofInt x) :: .int (Int32.ofInt j) :: .ref o :: ycS S) (hp M) = _
    have h1 := yix hj hs.2
    have h2 := hp_putL (M := M) (k := j) (v := x) hs.1
    unfold xastL
    simp only [hp_at hs.1, yob, yct] at h2 ⊢
    rw [if_pos ⟨trivial, h1.1⟩, h1.2, yct_updL hj.1, h2]
    rfl) k
theorem x_alen {a : xA} {o n kd : Nat} {rs : List Nat} (hC : C pc = some (.arraylength, 1, a)) (hs : shT[o]? = some (.inr (kd, n, rs)) ∧ n ≤ 100000) (hkd : kd < 5) (k : XW C d rt Q (pc + 1) L (.inl (n : Int) :: S) M) : XW C d rt Q pc L (.inr (.inr o) :: S) M :=
  XW.step hC rfl rfl (by
    show xlen pc (ycL L) (.ref o :: ycS S) (hp M) = _
    unfold xlen
    simp only [hp_at hs.1, yob]
    rw [if_pos hkd]
    rfl) k
theorem x_cpy {i : Nat} {z : Nat} {o1 o2 n1 n2 : Nat} {r1 r2 : List Nat} {sp dp n : Int} (hC : C pc = some (.invokestatic i, 3, .null, 0, z)) (h1 : shT[o1]? = some (.inr (0, n1, r1)) ∧ n1 ≤ 100000) (h2 : shT[o2]? = some (.inr (0, n2, r2)) ∧ n2 ≤ 100000) (hc : 0 ≤ sp ∧ 0 ≤ dp ∧ 0 ≤ n ∧ sp + n ≤ n1 ∧ dp + n ≤ n2) (hS : ((ycS S).map fun v => v.category).sum ≤ 8) (k : XW C d rt Q (pc + 3) L S (cpy M o1 o2 sp dp n)) : XW C d rt Q pc L (.inl n :: .inl dp :: .inr (.inr o2) :: .inl sp :: .inr (.inr o1) :: S) M := by
  have e1 : (Int32.ofInt sp).toInt = sp := Int32.toInt_ofInt_of_le (by omega) (by omega)
  have e2 : (Int32.ofInt dp).toInt = dp := Int32.toInt_ofInt_of_le (by omega) (by omega)
  have e3 : (Int32.ofInt n).toInt = n := Int32.toInt_ofInt_of_le (by omega) (by omega)
  have f1 : (Int32.ofInt sp).toNatClampNeg = sp.toNat := by show (Int32.ofInt sp).toInt.toNat = _; rw [e1]
  have f2 : (Int32.ofInt dp).toNatClampNeg = dp.toNat := by show (Int32.ofInt dp).toInt.toNat = _; rw [e2]
  have f3 : (Int32.ofInt n).toNatClampNeg = n.toNat := by show (Int32.ofInt n).toInt.toNat = _; rw [e3]
  have g : ∀ x : Int, 0 ≤ x → x ≤ 100000 → ¬ Int32.ofInt x < 0 := by
    intro x hx hx2
    rw [yof_0, yof_lt (by omega) (by omega)]
    omega
  refine XW.step hC rfl rfl ?_ k
  show xcpy pc (ycL L) (.int (Int32.ofInt n) :: .int (Int32.ofInt dp) :: .ref o2 :: .int (Int32.ofInt sp) :: .ref o1 :: ycS S) (hp M) = _
  unfold xcpy
  simp only [hp_at h1.1, hp_at h2.1, yob, yct]
  rw [if_pos ⟨⟨g sp (by omega) (by omega), g dp (by omega) (by omega)⟩, g n (by omega) (by omega), by rw [f1, f3]; omega, by rw [f2, f3]; omega, hS⟩, f1, f2, f3]
  have h3 := hp_cpy (M := M) (o1 := o1) (sp := sp) (dp := dp) (n := n) h2.1
  simp only [yob, yct] at h3
  have e : va_cpy (fun j : Nat => M.1 o1 (j : Int)) (fun j : Nat => M.1 o2 (j : Int)) sp.toNat dp.toNat n.toNat = fun j : Nat => (cpy M o1 o2 sp dp n).1 o2 (j : Int) := by
    funext j
    show _ = (if o2 = o2 ∧ dp ≤ (j : Int) ∧ (j : Int) < dp + n then M.1 o1 (sp + ((j : Int) - dp)) else M.1 o2 (j : Int))
    unfold va_cpy
    by_cases hj : dp ≤ (j : Int) ∧ (j : Int) < dp + n
    · rw [if_pos (by omega), if_pos ⟨rfl, hj⟩]
      dsimp only
      rw [show ((sp.toNat + (j - dp.toNat) : Nat) : Int) = sp + ((j : Int) - dp) by omega]
    · rw [if_neg (by omega), if_neg (fun q => hj q.2)]
  rw [e, h3]
  rfl
theorem x_max {i : Nat} {z : Nat} {x y : Int} (hC : C pc = some (.invokestatic i, 3, .null, 1, z)) (hx : -2147483648 ≤ x ∧ x < 2147483648) (hy : -2147483648 ≤ y ∧ y < 2147483648) (hS : ((ycS S).map fun v => v.category).sum ≤ 8) (k : XW C d rt Q (pc + 3) L (.inl (if x < y then y else x) :: S) M) : XW C d rt Q pc L (.inl y :: .inl x :: S) M := by
  refine XW.step hC rfl rfl ?_ k
  show xmm 1 pc (ycL L) (.int (Int32.ofInt y) :: .int (Int32.ofInt x) :: ycS S) (hp M) = _
  unfold xmm
  simp only [if_pos hS, if_true]
  by_cases h : x < y
  · rw [if_pos ((yof_lt hx hy).mpr h), if_pos h]; rfl
  · rw [if_neg (fun q => h ((yof_lt hx hy).mp q)), if_neg h]; rfl
theorem x_min {i : Nat} {z : Nat} {x y : Int} (hC : C pc = some (.invokestatic i, 3, .null, 2, z)) (hx : -2147483648 ≤ x ∧ x < 2147483648) (hy : -2147483648 ≤ y ∧ y < 2147483648) (hS : ((ycS S).map fun v => v.category).sum ≤ 8) (k : XW C d rt Q (pc + 3) L (.inl (if y < x then y else x) :: S) M) : XW C d rt Q pc L (.inl y :: .inl x :: S) M := by
  refine XW.step hC rfl rfl ?_ k
  show xmm 2 pc (ycL L) (.int (Int32.ofInt y) :: .int (Int32.ofInt x) :: ycS S) (hp M) = _
  unfold xmm
  simp only [if_pos hS]
  rw [if_neg (by omega)]
  by_cases h : y < x
  · rw [if_pos ((yof_lt hy hx).mpr h), if_pos h]; rfl
  · rw [if_neg (fun q => h ((yof_lt hy hx).mp q)), if_neg h]; rfl
theorem XW.done {a : xA} {ins : Jvm.ClassFile.Instr} {r : Option yV} {len : Nat} (hC : C pc = some (ins, len, a)) (he : xend ins (ycS S) = some (r.map ycv)) (hr : xret rt (r.map ycv) = true) (hq : Q r M) : XW C d rt Q pc L S M := by
  refine ⟨1, r, M, ?_, hr, hq⟩
  unfold xrun
  simp only [hC, he]
theorem x_ireturn {a : xA} {x : Int} {Q : Int → yM → Prop} (hC : C pc = some (.ireturn, 1, a)) (hq : Q x M) : XW C d (some .int) (wQi Q) pc L [.inl x] M :=
  XW.done (r := some (.inl x)) hC rfl rfl ⟨x, rfl, hq⟩
theorem x_zreturn {a : xA} {x : Int} {Q : Int → yM → Prop} (hC : C pc = some (.ireturn, 1, a)) (hx : x = 0 ∨ x = 1) (hq : Q x M) : XW C d (some .boolean) (wQi Q) pc L [.inl x] M :=
  XW.done (r := some (.inl x)) hC rfl (by rcases hx with rfl | rfl <;> rfl) ⟨x, rfl, hq⟩
theorem x_lreturn {a : xA} {x : Int} {Q : Int → yM → Prop} (hC : C pc = some (.lreturn, 1, a)) (hq : Q x M) : XW C d (some .long) (wQl Q) pc L [.inr (.inl x)] M :=
  XW.done (r := some (.inr (.inl x))) hC rfl rfl ⟨x, rfl, hq⟩
theorem x_areturn {a : xA} {x : Nat} {Q : Nat → yM → Prop} {t : FieldType} (hC : C pc = some (.areturn, 1, a)) (hq : Q x M) : XW C d (some (.array t)) (wQr Q) pc L [.inr (.inr x)] M :=
  XW.done (r := some (.inr (.inr x))) hC rfl rfl ⟨x, rfl, hq⟩
theorem x_return {a : xA} {Q : yM → Prop} (hC : C pc = some (.return_, 1, a)) (hq : Q M) : XW C d none (wQv Q) pc L [] M :=
  XW.done (r := none) hC rfl rfl ⟨rfl, hq⟩
end YR
