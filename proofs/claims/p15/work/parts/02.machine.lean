/-! THE ABSTRACT MACHINE: objects by number (not address); the address of object i is bs + i. -/
/-- an object: the number of its class and its fields; or an array: the number of its kind, its length and content -/
abbrev xO : Type := (Nat × List Value) ⊕ (Nat × vp_A)
abbrev xH : Type := List xO
abbrev xL : Type := List (Option Value)
/-- what an instruction's numbers stand for: a constant; two numbers -/
abbrev xA : Type := Value × Nat × Nat
abbrev xI : Type := Jvm.ClassFile.Instr × Nat × xA
abbrev xC : Type := Nat → Option xI
/-- a method: its name, its bytes, its locals, what it answers, 0 for a static one or the number of its class and 1, its code resolved -/
abbrev xM : Type := MethodName × ByteArray × Nat × Option FieldType × Nat × xC
/-- go on here; call (method, arguments, the rest of the stack, where to go on); come back -/
abbrev xR : Type := (Nat × xL × List Value × xH) ⊕ (Nat × List Value × List Value × Nat) ⊕ Option Value
def xst1 (L : xL) (a : Nat) (v : Value) : xL := match a with
  | 0 => L.set 0 (some v)
  | b + 1 => match L[b]? with
    | some (some w) => bif w.category == 2 then (L.set b none).set (b + 1) (some v) else L.set (b + 1) (some v)
    | _ => L.set (b + 1) (some v)
def xst2 (L : xL) (a : Nat) (v : Value) : xL := (xst1 L a v).set (a + 1) none
def xgo (pc : Nat) (L : xL) (S : List Value) (h : xH) : Option xR := some (.inl (pc, L, S, h))
def xfit : FieldType → Value → Bool
  | .int, .int _ => true
  | .long, .long _ => true
  | .boolean, .int x => x == 0 || x == 1
  | .object _, .ref _ => true
  | .array _, .ref _ => true
  | _, _ => false
def xtab (x : Int32) (lo : Int) (tg : List Nat) (df : Nat) : Nat := if x.toInt < lo then df else (tg[(x.toInt - lo).toNat]?).getD df
def xin (j : Int32) (n : Nat) : Bool := !(decide (j < 0) || Nat.ble n j.toNatClampNeg)
theorem xin_vp {j : Int32} {n : Nat} (h : xin j n = true) : vp_in j n := by
  unfold xin at h
  unfold vp_in
  simp only [Bool.not_eq_true', Bool.or_eq_false_iff, decide_eq_false_iff_not] at h
  intro q
  rcases q with q | q
  · exact h.1 q
  · exact Bool.eq_false_iff.mp h.2 (Nat.ble_eq_true_of_le q)
def xii (S : List Value) (pc : Nat) (L : xL) (h : xH) (f : Int32 → Int32 → Int32) : Option xR := match S with
  | .int y :: .int x :: r => xgo (pc + 1) L (.int (f x y) :: r) h
  | _ => none
def xdd (S : List Value) (pc : Nat) (L : xL) (h : xH) (f : Int32 → Int32 → Int32) : Option xR := match S with
  | .int y :: .int x :: r => if y = 0 then none else xgo (pc + 1) L (.int (f x y) :: r) h
  | _ => none
def xll (S : List Value) (pc : Nat) (L : xL) (h : xH) (f : Int64 → Int64 → Int64) : Option xR := match S with
  | .long y :: .long x :: r => xgo (pc + 1) L (.long (f x y) :: r) h
  | _ => none
def xli (S : List Value) (pc : Nat) (L : xL) (h : xH) (f : Int64 → Int32 → Int64) : Option xR := match S with
  | .int y :: .long x :: r => xgo (pc + 1) L (.long (f x y) :: r) h
  | _ => none
def xif (S : List Value) (pc tgt : Nat) (L : xL) (h : xH) (f : Int32 → Bool) : Option xR := match S with
  | .int x :: r => if f x then xgo tgt L r h else xgo (pc + 3) L r h
  | _ => none
def xcm (S : List Value) (pc tgt : Nat) (L : xL) (h : xH) (f : Int32 → Int32 → Bool) : Option xR := match S with
  | .int y :: .int x :: r => if f x y then xgo tgt L r h else xgo (pc + 3) L r h
  | _ => none
def xild (L : xL) (a : Nat) (pc : Nat) (S : List Value) (h : xH) : Option xR := match L[a]? with
  | some (some (.int x)) => xgo pc L (.int x :: S) h
  | _ => none
def xald (L : xL) (a : Nat) (pc : Nat) (S : List Value) (h : xH) : Option xR := match L[a]? with
  | some (some (.ref x)) => xgo pc L (.ref x :: S) h
  | _ => none
def xlld (L : xL) (a : Nat) (pc : Nat) (S : List Value) (h : xH) : Option xR := match L[a]? with
  | some (some (.long x)) => xgo pc L (.long x :: S) h
  | _ => none
def xist (L : xL) (a : Nat) (pc : Nat) (S : List Value) (h : xH) : Option xR := match S with
  | .int x :: r => if a < L.length then xgo pc (xst1 L a (.int x)) r h else none
  | _ => none
def xast (L : xL) (a : Nat) (pc : Nat) (S : List Value) (h : xH) : Option xR := match S with
  | .ref x :: r => if a < L.length then xgo pc (xst1 L a (.ref x)) r h else none
  | _ => none
def xlst (L : xL) (a : Nat) (pc : Nat) (S : List Value) (h : xH) : Option xR := match S with
  | .long x :: r => if a + 1 < L.length then xgo pc (xst2 L a (.long x)) r h else none
  | _ => none
def xinc (L : xL) (a : Nat) (v : Value) (pc : Nat) (S : List Value) (h : xH) : Option xR := match L[a]?, v with
  | some (some (.int x)), .int n => xgo pc (xst1 L a (.int (x + n))) S h
  | _, _ => none
def xget (ci k pc : Nat) (L : xL) (S : List Value) (h : xH) : Option xR := match S with
  | .ref i :: r => match h[i]? with
    | some (.inl (c, fs)) => match fs[k]? with
      | some v => if c = ci then xgo (pc + 3) L (v :: r) h else none
      | _ => none
    | _ => none
  | _ => none
def xput (ty : FieldType) (ci k pc : Nat) (L : xL) (S : List Value) (h : xH) : Option xR := match S with
  | v :: .ref i :: r => match h[i]? with
    | some (.inl (c, fs)) => if c = ci ∧ k < fs.length ∧ xfit ty v = true then xgo (pc + 3) L r (h.set i (.inl (c, fs.set k v))) else none
    | _ => none
  | _ => none
/-- the kinds of arrays: 0 int, 1 long, 2 boolean, 3 objects, 4 arrays of int -/
def xaldI (kd pc : Nat) (L : xL) (S : List Value) (h : xH) : Option xR := match S with
  | .int j :: .ref i :: r => match h[i]? with
    | some (.inr (k, n, .inl f)) => if k = kd ∧ xin j n = true then xgo (pc + 1) L (.int (f j.toNatClampNeg) :: r) h else none
    | _ => none
  | _ => none
def xaldL (pc : Nat) (L : xL) (S : List Value) (h : xH) : Option xR := match S with
  | .int j :: .ref i :: r => match h[i]? with
    | some (.inr (k, n, .inr (.inl f))) => if k = 1 ∧ xin j n = true then xgo (pc + 1) L (.long (f j.toNatClampNeg) :: r) h else none
    | _ => none
  | _ => none
def xaldA (pc : Nat) (L : xL) (S : List Value) (h : xH) : Option xR := match S with
  | .int j :: .ref i :: r => match h[i]? with
    | some (.inr (k, n, .inr (.inr (.inr (.inr f))))) => if (k = 3 ∨ k = 4) ∧ xin j n = true then xgo (pc + 1) L (va_rf (f j.toNatClampNeg) :: r) h else none
    | _ => none
  | _ => none
def xastI (kd pc : Nat) (L : xL) (S : List Value) (h : xH) : Option xR := match S with
  | .int x :: .int j :: .ref i :: r => match h[i]? with
    | some (.inr (k, n, .inl f)) => if k = kd ∧ xin j n = true ∧ (kd = 2 → x = 0 ∨ x = 1) then xgo (pc + 1) L r (h.set i (.inr (k, n, .inl (upd f j.toNatClampNeg x)))) else none
    | _ => none
  | _ => none
def xastL (pc : Nat) (L : xL) (S : List Value) (h : xH) : Option xR := match S with
  | .long x :: .int j :: .ref i :: r => match h[i]? with
    | some (.inr (k, n, .inr (.inl f))) => if k = 1 ∧ xin j n = true then xgo (pc + 1) L r (h.set i (.inr (k, n, .inr (.inl (vp_updL f j.toNatClampNeg x))))) else none
    | _ => none
  | _ => none
/-- ci: the class of what such an array holds -/
def xastA (ci pc : Nat) (L : xL) (S : List Value) (h : xH) : Option xR := match S with
  | .ref v :: .int j :: .ref i :: r => match h[i]?, h[v]? with
    | some (.inr (k, n, .inr (.inr (.inr (.inr f))))), some (.inl (c, _)) => if k = 3 ∧ c = ci ∧ xin j n = true then xgo (pc + 1) L r (h.set i (.inr (k, n, .inr (.inr (.inr (.inr (va_up f j.toNatClampNeg (some v)))))))) else none
    | _, _ => none
  | _ => none
def xlen (pc : Nat) (L : xL) (S : List Value) (h : xH) : Option xR := match S with
  | .ref i :: r => match h[i]? with
    | some (.inr (k, n, _)) => if k < 5 then xgo (pc + 1) L (.int (Int32.ofNat n) :: r) h else none
    | _ => none
  | _ => none
def xzero : FieldType → Value
  | .int => .int 0
  | .boolean => .int 0
  | .long => .long 0
  | _ => .null

/-- what a copy of n from sp of the one to dp of the other leaves -/
def xcpy (pc : Nat) (L : xL) (S : List Value) (h : xH) : Option xR := match S with
  | .int n :: .int dp :: .ref j :: .int sp :: .ref i :: r => match h[i]?, h[j]? with
    | some (.inr (0, n0, .inl f)), some (.inr (0, n1, .inl g)) =>
      if (¬ sp < 0 ∧ ¬ dp < 0) ∧ ¬ n < 0 ∧ sp.toNatClampNeg + n.toNatClampNeg ≤ n0 ∧ dp.toNatClampNeg + n.toNatClampNeg ≤ n1 ∧ (r.map fun v => v.category).sum ≤ 8 then
        xgo (pc + 3) L r (h.set j (.inr (0, n1, .inl (va_cpy f g sp.toNatClampNeg dp.toNatClampNeg n.toNatClampNeg)))) else none
    | _, _ => none
  | _ => none
/-- Math.max (1), Math.min -/
def xmm (k pc : Nat) (L : xL) (S : List Value) (h : xH) : Option xR := match S with
  | .int y :: .int x :: r => if (r.map fun v => v.category).sum ≤ 8 then xgo (pc + 3) L (.int (if k = 1 then (if x < y then y else x) else (if y < x then y else x)) :: r) h else none
  | _ => none
/-- new arrays: kd their kind, the content of new ones -/
def xnewA (kd pc : Nat) (z : vp_A) (L : xL) (S : List Value) (h : xH) : Option xR := match S with
  | .int n :: r => if ¬ n < 0 ∧ n.toNatClampNeg ≤ 100000 then xgo pc L (.ref h.length :: r) (h ++ [.inr (kd, n.toNatClampNeg, z.2)]) else none
  | _ => none
def xnewM (pc : Nat) (L : xL) (S : List Value) (h : xH) : Option xR := match S with
  | .int k :: .int n :: r => if ¬ n < 0 ∧ ¬ k < 0 ∧ n.toNatClampNeg ≤ 1000 ∧ k.toNatClampNeg ≤ 1000 then
      xgo pc L (.ref h.length :: r) (h ++ [.inr (4, n.toNatClampNeg, .inr (.inr (.inr (.inr (fun i => if i < n.toNatClampNeg then some (h.length + 1 + i) else none)))))] ++ List.replicate n.toNatClampNeg (.inr (0, k.toNatClampNeg, .inl (fun _ => 0)))) else none
  | _ => none
/-- a call: n values and, r = 1, a receiver -/
def xcall (k n r pc : Nat) (S : List Value) : Option xR :=
  if n + r ≤ S.length ∧ ((S.drop (n + r)).map fun v => v.category).sum ≤ 8 then some (.inr (.inl (k, (S.take (n + r)).reverse, S.drop (n + r), pc + 3))) else none
/-- what the classes' fields are; what the numbers in the code stand for -/
abbrev xT : Type := Nat → Nat → FieldType
def xdo (ty : xT) (pc len : Nat) (a : xA) (ins : Jvm.ClassFile.Instr) (L : xL) (S : List Value) (h : xH) : Option xR := match ins with
  | .iconst _ | .bipush _ | .sipush _ | .lconst _ | .ldc _ | .ldc_w _ | .ldc2_w _ => xgo (pc + len) L (a.1 :: S) h
  | .iload _ | .iload_n _ => xild L a.2.1 (pc + len) S h
  | .aload _ | .aload_n _ => xald L a.2.1 (pc + len) S h
  | .lload _ | .lload_n _ => xlld L a.2.1 (pc + len) S h
  | .istore _ | .istore_n _ => xist L a.2.1 (pc + len) S h
  | .astore _ | .astore_n _ => xast L a.2.1 (pc + len) S h
  | .lstore _ | .lstore_n _ => xlst L a.2.1 (pc + len) S h
  | .iinc _ _ => xinc L a.2.1 a.1 (pc + len) S h
  | .iadd => xii S pc L h (fun x y => x + y)
  | .isub => xii S pc L h (fun x y => x - y)
  | .imul => xii S pc L h (fun x y => x * y)
  | .iand => xii S pc L h (fun x y => x &&& y)
  | .ior => xii S pc L h (fun x y => x ||| y)
  | .ixor => xii S pc L h (fun x y => x ^^^ y)
  | .idiv => xdd S pc L h (fun x y => x / y)
  | .irem => xdd S pc L h (fun x y => x - x / y * y)
  | .ishl => xii S pc L h (fun x y => x <<< (y &&& 31))
  | .ishr => xii S pc L h (fun x y => x >>> (y &&& 31))
  | .iushr => xii S pc L h (fun x y => (x.toUInt32 >>> (y.toUInt32 &&& Int32.toUInt32 31)).toInt32)
  | .ladd => xll S pc L h (fun x y => x + y)
  | .lsub => xll S pc L h (fun x y => x - y)
  | .land => xll S pc L h (fun x y => x &&& y)
  | .lor => xll S pc L h (fun x y => x ||| y)
  | .lxor => xll S pc L h (fun x y => x ^^^ y)
  | .lshl => xli S pc L h (fun x y => x <<< (y.toInt64 &&& 63))
  | .lshr => xli S pc L h (fun x y => x >>> (y.toInt64 &&& 63))
  | .lushr => xli S pc L h (fun x y => (x.toUInt64 >>> (y.toInt64.toUInt64 &&& Int64.toUInt64 63)).toInt64)
  | .ineg => match S with
    | .int x :: r => xgo (pc + 1) L (.int (-x) :: r) h
    | _ => none
  | .lneg => match S with
    | .long x :: r => xgo (pc + 1) L (.long (-x) :: r) h
    | _ => none
  | .i2l => match S with
    | .int x :: r => xgo (pc + 1) L (.long x.toInt64 :: r) h
    | _ => none
  | .l2i => match S with
    | .long x :: r => xgo (pc + 1) L (.int x.toInt32 :: r) h
    | _ => none
  | .lcmp => match S with
    | .long y :: .long x :: r => xgo (pc + 1) L (.int (lg_cmp x y) :: r) h
    | _ => none
  | .ifCond .eq _ => xif S pc a.2.1 L h (fun x => decide (x = 0))
  | .ifCond .ne _ => xif S pc a.2.1 L h (fun x => decide (¬ x = 0))
  | .ifCond .lt _ => xif S pc a.2.1 L h (fun x => decide (x < 0))
  | .ifCond .ge _ => xif S pc a.2.1 L h (fun x => decide (0 ≤ x))
  | .ifCond .gt _ => xif S pc a.2.1 L h (fun x => decide (0 < x))
  | .ifCond .le _ => xif S pc a.2.1 L h (fun x => decide (x ≤ 0))
  | .if_icmp .eq _ => xcm S pc a.2.1 L h (fun x y => decide (x = y))
  | .if_icmp .ne _ => xcm S pc a.2.1 L h (fun x y => decide (¬ x = y))
  | .if_icmp .lt _ => xcm S pc a.2.1 L h (fun x y => decide (x < y))
  | .if_icmp .ge _ => xcm S pc a.2.1 L h (fun x y => decide (y ≤ x))
  | .if_icmp .gt _ => xcm S pc a.2.1 L h (fun x y => decide (y < x))
  | .if_icmp .le _ => xcm S pc a.2.1 L h (fun x y => decide (x ≤ y))
  | .goto _ => xgo a.2.1 L S h
  | .tableswitch d lo _ offs => match S with
    | .int x :: r => xgo (xtab x lo (offs.toList.map fun o => ((pc : Int) + o).toNat) ((pc : Int) + d).toNat) L r h
    | _ => none
  | .lookupswitch d ps => match S with
    | .int x :: r => xgo ((pc : Int) + Jvm.Op.lookupswitch.offset ps.toList d x.toInt).toNat L r h
    | _ => none
  | .dup => match S with
    | v :: r => if v.category = 1 then xgo (pc + 1) L (v :: v :: r) h else none
    | _ => none
  | .dup2 => match S with
    | v :: w :: r => if v.category = 1 ∧ w.category = 1 then xgo (pc + 1) L (v :: w :: v :: w :: r) h else none
    | _ => none
  | .pop => match S with
    | v :: r => if v.category = 1 then xgo (pc + 1) L r h else none
    | _ => none
  | .pop2 => match S with
    | v :: r => if v.category = 2 then xgo (pc + 1) L r h else none
    | _ => none
  | .getfield _ => xget a.2.1 a.2.2 pc L S h
  | .putfield _ => xput (ty a.2.1 a.2.2) a.2.1 a.2.2 pc L S h
  | .iaload => xaldI 0 pc L S h
  | .baload => xaldI 2 pc L S h
  | .laload => xaldL pc L S h
  | .aaload => xaldA pc L S h
  | .iastore => xastI 0 pc L S h
  | .bastore => xastI 2 pc L S h
  | .lastore => xastL pc L S h
  | .aastore => xastA a.2.1 pc L S h
  | .arraylength => xlen pc L S h
  | .newarray .int => xnewA 0 (pc + 2) (0, .inl (fun _ => 0)) L S h
  | .newarray .long => xnewA 1 (pc + 2) (0, .inr (.inl (fun _ => 0))) L S h
  | .newarray .boolean => xnewA 2 (pc + 2) (0, .inl (fun _ => 0)) L S h
  | .anewarray _ => xnewA 3 (pc + 3) (0, .inr (.inr (.inr (.inr (fun _ => none))))) L S h
  | .multianewarray _ _ => xnewM (pc + 4) L S h
  | .new _ => xgo (pc + 3) L (.ref h.length :: S) (h ++ [.inl (a.2.1, (List.range a.2.2).map (fun k => xzero (ty a.2.1 k)))])
  | .invokevirtual _ => xcall a.2.1 a.2.2 1 pc S
  | .invokestatic _ => match a.1 with
    | .null => if a.2.1 = 0 then xcpy pc L S h else xmm a.2.1 pc L S h
    | _ => xcall a.2.1 a.2.2 0 pc S
  | .invokespecial _ => match a.1 with
    | .null => match S with
      | .ref _ :: r => if (r.map fun v => v.category).sum ≤ 8 then xgo (pc + 3) L r h else none
      | _ => none
    | _ => xcall a.2.1 a.2.2 1 pc S
  | .ireturn => match S with
    | .int x :: [] => some (.inr (.inr (some (.int x))))
    | _ => none
  | .lreturn => match S with
    | .long x :: [] => some (.inr (.inr (some (.long x))))
    | _ => none
  | .areturn => match S with
    | .ref x :: [] => some (.inr (.inr (some (.ref x))))
    | _ => none
  | .return_ => match S with
    | [] => some (.inr (.inr none))
    | _ => none
  | _ => none
def xent (n : Nat) (vs : List Value) : xL := let l := vs.flatMap fun v => if v.category = 2 then [some v, none] else [some v]; l ++ List.replicate (n - l.length) none
/-- is the answer of its type -/
def xret : Option FieldType → Option Value → Bool
  | none, none => true
  | some ty, some v => xfit ty v
  | _, _ => false
/-- is the receiver of its class -/
def xrcv (kd : Nat) (h : xH) (as : List Value) : Bool := match kd, as with
  | 0, _ => true
  | ci + 1, .ref i :: _ => match h[i]? with
    | some (.inl (c, _)) => c == ci
    | _ => false
  | _, _ => false
/-- the end of a method, and its answer -/
def xend (ins : Jvm.ClassFile.Instr) (S : List Value) : Option (Option Value) := match ins, S with
  | .ireturn, [.int x] => some (some (.int x))
  | .lreturn, [.long x] => some (some (.long x))
  | .areturn, [.ref x] => some (some (.ref x))
  | .return_, [] => some none
  | _, _ => none
def xcl0 (a : xA) (r : Nat) (S : List Value) : Option (Nat × List Value × List Value) :=
  bif Nat.ble (a.2.2 + r) S.length && Nat.ble ((S.drop (a.2.2 + r)).map fun v => v.category).sum 8 then some (a.2.1, (S.take (a.2.2 + r)).reverse, S.drop (a.2.2 + r)) else none
/-- a call: the method, the arguments, the rest of the stack -/
def xcl (ins : Jvm.ClassFile.Instr) (a : xA) (S : List Value) : Option (Nat × List Value × List Value) := match ins with
  | .invokevirtual _ => xcl0 a 1 S
  | .invokestatic _ => match a.1 with
    | .null => none
    | _ => xcl0 a 0 S
  | .invokespecial _ => match a.1 with
    | .null => none
    | _ => xcl0 a 1 S
  | _ => none
/-- n steps at most, d calls open at once at most -/
def xrun (ty : xT) (P : List xM) : Nat → Nat → xC → Nat → xL → List Value → xH → Option (Option Value × xH)
  | 0, _, _, _, _, _, _ => none
  | n + 1, d, C, pc, L, S, h => match C pc with
    | none => none
    | some I => match xend I.1 S with
      | some r => some (r, h)
      | none => match xcl I.1 I.2.2 S with
        | some q => match d with
          | 0 => none
          | d' + 1 => match P[q.1]? with
            | some M => bif xrcv M.2.2.2.2.1 h q.2.1 && Nat.ble (q.2.1.map fun v => v.category).sum M.2.2.1 then (match xrun ty P n d' M.2.2.2.2.2 0 (xent M.2.2.1 q.2.1) [] h with
              | none => none
              | some (r, h') => bif xret M.2.2.2.1 r then xrun ty P n (d' + 1) C (pc + 3) L (r.toList ++ q.2.2) h' else none) else none
            | none => none
        | none => match xdo ty pc I.2.1 I.2.2 I.1 L S h with
          | some (.inl (pc', L', S', h')) => xrun ty P n d C pc' L' S' h'
          | _ => none
/-- a word that holds on warmer tables too -/
def xgw (w : Cond) : Bool := goodWord w || (match w with
  | .methodLinkNest _ _ _ _ => true
  | .arrayOver (.object _) => true
  | .arrayOver (.array _) => true
  | _ => false)
theorem xgw_moved {w : Cond} {args a' : Array Value} {s U : State} (hW : s.WarmedH U.vm) (hg : xgw w = true) (h : w.before args s = true) : w.before a' U = true := by
  unfold xgw at hg
  rw [Bool.or_eq_true] at hg
  rcases hg with hg | hg
  · exact word_at hW (good_of_word hg) h
  · split at hg
    · exact va_Nw.use rfl (va_Nw.warmM hW (va_Nw.of rfl h))
    · exact va_AO.use (va_AO.moved hW.alike (va_AO.of h))
    · exact over_moved hW.alike h
    · cases hg
/-- a word of the tables' that a callee may have too -/
abbrev xMem (w : Cond) : Prop := w ∈ lw_tbl ∧ xgw w = true
/-! WHAT IS DECIDED OF THE CODE -/
def xgF (own : String) (idx ci k : Nat) : Bool := match vwCl[ci]? with
  | some q => decide (k < q.2.2) && decide (xMem (Cond.fieldLink own idx (q.2.1 k).1 (q.2.1 k).2.1 (q.2.1 k).2.2.1))
  | none => false
def xgP (own : String) (ini : Bool) (idx ci k : Nat) : Bool := match vwCl[ci]? with
  | some q => !(q.2.1 k).2.2.2 || (ini && decide ((q.2.1 k).1 = own))
  | none => false
def xgS (own : String) (idx : Nat) : Bool := decide (xMem (Cond.methodLink own idx arraycopyName)) && decide (xMem (Cond.native arraycopyName)) && decide (xMem (Cond.static arraycopyName)) && decide (xMem (Cond.initialized "java/lang/System"))
def xgMM (own : String) (idx : Nat) (nm : MethodName) (bs : ByteArray) : Bool := decide (xMem (Cond.methodLink own idx nm)) && decide (xMem (Cond.static nm)) && decide (xMem (Cond.initialized "java/lang/Math")) && decide (xMem (Cond.code nm bs 2 (some .int)))
def xgN (own : String) (idx : Nat) : Nat → Bool
  | 0 => xgS own idx
  | 1 => xgMM own idx Lib.Math.max.name Lib.Math.max.code
  | 2 => xgMM own idx Lib.Math.min.name Lib.Math.min.code
  | _ => false
def xtgt (pc : Nat) (off : Int) (t : Nat) : Bool := decide ((pc : Int) + off = (t : Int))
/-- what is decided of an instruction: its length, and that the numbers beside it are what its own numbers stand for -/
def xok (own : String) (ini : Bool) (pc len : Nat) (a : xA) : Jvm.ClassFile.Instr → Bool
  | .iconst n => len == 1 && decide (a.1 = .int (Int32.ofInt n))
  | .bipush n => len == 2 && decide (a.1 = .int (Int8.ofInt n).toInt32)
  | .sipush n => len == 3 && decide (a.1 = .int (Int16.ofInt n).toInt32)
  | .lconst n => len == 1 && decide (a.1 = .long (Int64.ofNat n))
  | .ldc i => len == 2 && (match a.1 with | .int v => decide (xMem (Jvm.Cond.constant own i v)) | _ => false)
  | .ldc_w i => len == 3 && (match a.1 with | .int v => decide (xMem (Jvm.Cond.constant own i v)) | _ => false)
  | .ldc2_w i => len == 3 && (match a.1 with | .long v => decide (xMem (Jvm.Cond.constantLong own i v)) | _ => false)
  | .iload i => len == 2 && a.2.1 == i
  | .aload i => len == 2 && a.2.1 == i
  | .lload i => len == 2 && a.2.1 == i
  | .istore i => len == 2 && a.2.1 == i
  | .astore i => len == 2 && a.2.1 == i
  | .lstore i => len == 2 && a.2.1 == i
  | .iload_n i => len == 1 && a.2.1 == i.val
  | .aload_n i => len == 1 && a.2.1 == i.val
  | .lload_n i => len == 1 && a.2.1 == i.val
  | .istore_n i => len == 1 && a.2.1 == i.val
  | .astore_n i => len == 1 && a.2.1 == i.val
  | .lstore_n i => len == 1 && a.2.1 == i.val
  | .iinc i n => len == 3 && a.2.1 == i && decide (a.1 = .int (Int32.ofInt n))
  | .iadd | .isub | .imul | .iand | .ior | .ixor | .idiv | .irem | .ishl | .ishr | .iushr | .ineg => len == 1
  | .ladd | .lsub | .land | .lor | .lxor | .lshl | .lshr | .lushr | .lneg | .i2l | .l2i | .lcmp => len == 1
  | .dup | .dup2 | .pop | .pop2 | .iaload | .baload | .laload | .aaload | .iastore | .bastore | .lastore | .arraylength => len == 1
  | .aastore => len == 1 && a.2.1 == 10
  | .ifCond _ off => len == 3 && xtgt pc off a.2.1
  | .if_icmp _ off => len == 3 && xtgt pc off a.2.1
  | .goto off => len == 3 && xtgt pc off a.2.1
  | .tableswitch d lo hi offs => decide (hi = lo + (offs.size : Int) - 1) && offs.toList.all (fun o => decide (0 ≤ (pc : Int) + o)) && decide (0 ≤ (pc : Int) + d)
  | .lookupswitch d ps => (ps.toList.zip (ps.toList.drop 1)).all (fun (a, next) => a.1 < next.1) && ps.toList.all (fun o => decide (0 ≤ (pc : Int) + o.2)) && decide (0 ≤ (pc : Int) + d)
  | .getfield i => len == 3 && xgF own i a.2.1 a.2.2
  | .putfield i => len == 3 && xgF own i a.2.1 a.2.2 && xgP own ini i a.2.1 a.2.2
  | .newarray .int => len == 2 && decide (xMem (Jvm.Cond.arrayClass .int))
  | .newarray .long => len == 2 && decide (xMem (Jvm.Cond.arrayClass .long))
  | .newarray .boolean => len == 2 && decide (xMem (Jvm.Cond.arrayClass .boolean))
  | .anewarray i => len == 3 && decide (xMem (Jvm.Cond.classLink own i RX10)) && decide (xMem (Jvm.Cond.arrayOver (.object RX10)))
  | .multianewarray i d => len == 4 && d == 2 && decide (xMem (Jvm.Cond.classLink own i ("[" ++ (FieldType.array .int).toString))) && decide (xMem (Jvm.Cond.arrayOver (.array .int))) && decide (xMem (Jvm.Cond.arrayClass .int))
  | .new i => len == 3 && (match vwCl[a.2.1]? with
    | some q => a.2.2 == q.2.2 && decide (xMem (Jvm.Cond.classLink own i q.1)) && decide (xMem (Jvm.Cond.instantiable q.1 q.2.2)) && decide (xMem (Jvm.Cond.initialized q.1)) && (List.range q.2.2).all (fun j => decide (defaultValue (xty a.2.1 j) = xzero (xty a.2.1 j)))
    | none => false)
  | .invokestatic i => len == 3 && (match a.1 with | .null => xgN own i a.2.1 | _ => true)
  | .invokespecial i => len == 3 && (match a.1 with | .null => decide (xMem (Jvm.Cond.methodLink own i objectInit)) && decide (xMem (Jvm.Cond.instanceMethod objectInit)) && decide (xMem (Jvm.Cond.code objectInit ⟨#[0xb1]⟩ 1 none)) | _ => true)
  | .invokevirtual _ => len == 3
  | .ireturn | .lreturn | .areturn | .return_ => len == 1
  | _ => false
def xcall0 (M : xM) (n : Nat) : Bool := decide (xMem (.initialized M.1.cls)) && decide (M.1.cls ≠ "java/lang/invoke/MethodHandle" ∧ M.1.cls ≠ "java/lang/invoke/VarHandle") && decide ((parseMethodDescriptor M.1.desc).map (fun d => d.parameters.length) = some n) && Nat.ble M.2.2.1 80
/-- what is decided of a call -/
def xcok (P : List xM) (own : String) (a : xA) : Jvm.ClassFile.Instr → Bool
  | .invokevirtual i => match P[a.2.1]? with
    | some M => (match M.2.2.2.2.1 with
      | 0 => false
      | ci + 1 => (vwCl[ci]?).map (fun q => q.1) == some M.1.cls) && decide (xMem (.methodLink own i M.1)) && decide (xMem (.instanceMethod M.1)) && decide (xMem (.selects M.1.cls M.1 M.1)) && xcall0 M a.2.2
    | none => false
  | .invokestatic i => match a.1 with
    | .null => true
    | .int _ => match P[a.2.1]? with
      | some M => M.2.2.2.2.1 == 0 && decide (xMem (.methodLink own i M.1)) && decide (xMem (.static M.1)) && xcall0 M a.2.2
      | none => false
    | .long _ => match P[a.2.1]? with
      | some M => M.2.2.2.2.1 == 0 && decide (xMem (.methodLinkNest own i M.1 RX11)) && decide (xMem (.static M.1)) && xcall0 M a.2.2
      | none => false
    | _ => false
  | .invokespecial i => match a.1 with
    | .null => true
    | .int _ => match P[a.2.1]? with
      | some M => !(M.2.2.2.2.1 == 0) && M.1.name == "<init>" && decide (M.2.2.2.1 = none) && decide (xMem (.methodLink own i M.1)) && decide (xMem (.instanceMethod M.1)) && xcall0 M a.2.2
      | none => false
    | .long _ => match P[a.2.1]? with
      | some M => !(M.2.2.2.2.1 == 0) && M.1.name == "<init>" && decide (M.2.2.2.1 = none) && decide (xMem (.methodLinkNest own i M.1 RX11)) && decide (xMem (.instanceMethod M.1)) && xcall0 M a.2.2
      | none => false
    | _ => false
  | _ => true
