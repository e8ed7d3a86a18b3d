/-! THE LAW'S OWN FRAME: the script is the cell b, told in the abstract machine as .retAddr b -/
def ldo (b N : Nat) (xs : Nat → Int32) (pc len : Nat) (a : xA) (ins : Jvm.ClassFile.Instr) (L : xL) (S : List Value) (h : xH) : Option xR := match ins with
  | .aload_n _ => match L[a.2.1]? with
    | some (some (.retAddr k)) => xgo (pc + len) L (.retAddr k :: S) h
    | _ => xdo xty pc len a ins L S h
  | .iaload => match S with
    | .int j :: .retAddr k :: r => if k = b ∧ xin j N = true then xgo (pc + 1) L (.int (xs j.toNatClampNeg) :: r) h else none
    | _ => xdo xty pc len a ins L S h
  | .arraylength => match S with
    | .retAddr k :: r => if k = b then xgo (pc + 1) L (.int (Int32.ofNat N) :: r) h else none
    | _ => xdo xty pc len a ins L S h
  | _ => xdo xty pc len a ins L S h
/-- a run of the law: its own steps, the calls by xrun -/
def lrun (b N : Nat) (xs : Nat → Int32) (P : List xM) : Nat → Nat → xC → Nat → xL → List Value → xH → Option (Option Value × xH)
  | 0, _, _, _, _, _, _ => none
  | n + 1, d, C, pc, L, S, h => match C pc with
    | none => none
    | some I => match xend I.1 S with
      | some r => some (r, h)
      | none => match xcl I.1 I.2.2 S with
        | some q => match d with
          | 0 => none
          | d' + 1 => match P[q.1]? with
            | some M => bif xrcv M.2.2.2.2.1 h q.2.1 && Nat.ble (q.2.1.map fun v => v.category).sum M.2.2.1 then (match xrun xty P n d' M.2.2.2.2.2 0 (xent M.2.2.1 q.2.1) [] h with
              | none => none
              | some (r, h') => bif xret M.2.2.2.1 r then lrun b N xs P n (d' + 1) C (pc + 3) L (r.toList ++ q.2.2) h' else none) else none
            | none => none
        | none => match ldo b N xs pc I.2.1 I.2.2 I.1 L S h with
          | some (.inl (pc', L', S', h')) => lrun b N xs P n d C pc' L' S' h'
          | _ => none
theorem ldo_g {b N : Nat} {xs : Nat → Int32} {pc len : Nat} {a : xA} {ins : Jvm.ClassFile.Instr} {L : xL} {S : List Value} {h : xH} {pc' : Nat} {L' : xL} {S' : List Value} {h' : xH} (hst : ldo b N xs pc len a ins L S h = some (.inl (pc', L', S', h'))) : xge h h' := by
  unfold ldo at hst
  split at hst
  · split at hst
    · exact xge.eq (xgo_inj hst).2.2.2.symm
    · exact xdo_g hst
  · split at hst
    · split at hst
      · exact xge.eq (xgo_inj hst).2.2.2.symm
      · cases hst
    · exact xdo_g hst
  · split at hst
    · split at hst
      · exact xge.eq (xgo_inj hst).2.2.2.symm
      · cases hst
    · exact xdo_g hst
  · exact xdo_g hst
theorem lrun_g {b N : Nat} {xs : Nat → Int32} {P : List xM} : ∀ (n d : Nat) (C : xC) (pc : Nat) (L : xL) (S : List Value) (h : xH) (r : Option Value) (h' : xH), lrun b N xs P n d C pc L S h = some (r, h') → xge h h' := by
  intro n
  induction n with
  | zero => intro d C pc L S h r h' hr; cases hr
  | succ n ih =>
    intro d C pc L S h r h' hr
    unfold lrun at hr
    split at hr
    · cases hr
    · split at hr
      · injection hr with hr; injection hr with h1 h2; exact xge.eq h2.symm
      · split at hr
        · split at hr
          · cases hr
          · split at hr
            · cases hx : (xrcv _ _ _ && _) with
              | false => rw [hx, cond_false] at hr; cases hr
              | true =>
                rw [hx, cond_true] at hr
                split at hr
                · cases hr
                · next r1 h1 hr1 =>
                  have g1 := xrun_g _ _ _ _ _ _ _ _ _ hr1
                  cases hy : xret _ r1 with
                  | false => rw [hy, cond_false] at hr; cases hr
                  | true =>
                    rw [hy, cond_true] at hr
                    exact xge.tr g1 (ih _ _ _ _ _ _ _ _ hr)
            · cases hr
        · split at hr
          · next hst => exact xge.tr (ldo_g hst) (ih _ _ _ _ _ _ _ _ hr)
          · cases hr
section LW
variable {p : Program} {l : Launch} {e : Env} {R : Room} {s : State} {m : MethodId} {args : Array Value} {below : List Frame} {meth : Method} {c : Code} {Q : State → Prop}
variable {cc : ByteArray} {D : va_G} {cA : Nat → ClassId} {bs n0 z0 nL : Nat} {own : String}
theorem ls_do (X : xCtx p s m args c cc nL own D cA bs n0) (hC : xCls) (hR1 : 1 ≤ R.frames) (hR2 : 100 ≤ R.locals) {ini : Bool} (hini : ini = true → meth.name = "<init>") {b N : Nat} {xs : Nat → Int32} (hX : va_X b N xs s s.heap) (hbl : b < s.heap.size) (hbs : b < bs) {pc len : Nat} {a : xA} {ins : Jvm.ClassFile.Instr} {L : xL} {S : List Value} {h : xH} {pc' : Nat} {L' : xL} {S' : List Value} {h' : xH}
    (hd : decode cc pc = .ok (ins, len)) (hok : xok own ini pc len a ins = true) (hst : ldo b N xs pc len a ins L S h = some (.inl (pc', L', S', h'))) (hroom : h'.length - n0 ≤ R.cells ∧ xz h' - z0 ≤ R.slots) (k : xAt p l e R s m args below meth c Q D cA bs n0 z0 nL pc' L' S' h') : xAt p l e R s m args below meth c Q D cA bs n0 z0 nL pc L S h := by
  obtain ⟨hx, hb, hml, hown, hts, hK, hs0⟩ := id X
  have hbA : ¬ (fun q : Nat => bs ≤ q) b := by show ¬ bs ≤ b; omega
  unfold ldo at hst
  split at hst
  · split at hst
    · next k9 hk9 =>
      simp only [xok, Bool.and_eq_true, beq_iff_eq] at hok
      obtain ⟨rfl, ha⟩ := hok
      obtain ⟨rfl, rfl, rfl, rfl⟩ := xgo_inj hst
      intro H locs ls hR hS hL hn hz
      rw [ha] at hk9
      exact lv_aload_n hx hb hd rfl (hL.2.2.2 _ _ hk9) (k H locs ls hR hS hL hn hz)
    · exact xs_do X hC hR1 hR2 hini hd hok hst hroom k
  · split at hst
    · split at hst
      · next hc =>
        obtain ⟨rfl, hin⟩ := hc
        simp only [xok, beq_iff_eq] at hok
        subst hok
        obtain ⟨rfl, rfl, rfl, rfl⟩ := xgo_inj hst
        intro H locs ls hR hS hL hn hz
        exact va_sld hx hb hX hbl hbA hS (xin_vp hin) hd (k H locs ls hR hS hL hn hz)
      · cases hst
    · exact xs_do X hC hR1 hR2 hini hd hok hst hroom k
  · split at hst
    · split at hst
      · next hc =>
        subst hc
        simp only [xok, beq_iff_eq] at hok
        subst hok
        obtain ⟨rfl, rfl, rfl, rfl⟩ := xgo_inj hst
        intro H locs ls hR hS hL hn hz
        exact va_slen hx hb hX hbl hbA hS hd (k H locs ls hR hS hL hn hz)
      · cases hst
    · exact xs_do X hC hR1 hR2 hini hd hok hst hroom k
  · exact xs_do X hC hR1 hR2 hini hd hok hst hroom k
end LW
theorem ls_run {P : List xM} (hP : xProg P) (hC : xCls) {p : Program} {l : Launch} {e : Env} {R : Room} {s : State} {m : MethodId} {args : Array Value} {below : List Frame} {meth : Method} {c : Code} {Q : State → Prop} {cc : ByteArray} {D : va_G} {cA : Nat → ClassId} {bs n0 z0 nL : Nat} {own : String} {ini : Bool}
    (X : xCtx p s m args c cc nL own D cA bs n0) {C : xC} (hCode : xCode P own ini cc C) (hini : ini = true → meth.name = "<init>") {b N : Nat} {xs : Nat → Int32} (hX : va_X b N xs s s.heap) (hbl : b < s.heap.size) (hbs : b < bs) : ∀ (n d pc : Nat) (L : xL) (S : List Value) (h : xH) (r : Option Value) (h' : xH), lrun b N xs P n d C pc L S h = some (r, h') →
    d + 1 ≤ R.frames ∧ 100 * (d + 1) ≤ R.locals → h'.length - n0 ≤ R.cells ∧ xz h' - z0 ≤ R.slots →
    (∀ (pc1 : Nat) (I : xI) (L1 : xL) (S1 : List Value), C pc1 = some I → xend I.1 S1 = some r → xAt p l e R s m args below meth c Q D cA bs n0 z0 nL pc1 L1 S1 h') →
    xAt p l e R s m args below meth c Q D cA bs n0 z0 nL pc L S h := by
  intro n
  induction n with
  | zero => intro d pc L S h r h' hr; cases hr
  | succ n ih =>
    intro d pc L S h r h' hr hR hroom hend
    unfold lrun at hr
    split at hr
    · cases hr
    · next I hI =>
      obtain ⟨hd, hok, hcok⟩ := hCode pc I hI
      split at hr
      · next r1 he =>
        injection hr with hr
        injection hr with h1 h2
        subst h1; subst h2
        exact hend pc I L S hI he
      · split at hr
        · next q hcl =>
          split at hr
          · cases hr
          · next d' =>
            split at hr
            · next M hM =>
              cases hx : (xrcv M.2.2.2.2.1 h q.2.1 && Nat.ble (q.2.1.map fun v => v.category).sum M.2.2.1) with
              | false => rw [hx, cond_false] at hr; cases hr
              | true =>
                rw [hx, cond_true] at hr
                rw [Bool.and_eq_true] at hx
                split at hr
                · cases hr
                · next r1 h1 hr1 =>
                  cases hy : xret M.2.2.2.1 r1 with
                  | false => rw [hy, cond_false] at hr; cases hr
                  | true =>
                    rw [hy, cond_true] at hr
                    have g1 := xrun_g _ _ _ _ _ _ _ _ _ hr1
                    have g2 := lrun_g _ _ _ _ _ _ _ _ _ hr
                    have hMet := xs_met hP (xs_run hP hC n) hM hr1 hy (Nat.le_of_ble_eq_true hx.2) l D cA bs
                    exact xs_call X hR hM (hP _ M hM).2.1 hd hok hcok hcl hx.1 hMet g1 ⟨by have := g2.1; omega, by have := g2.2; omega⟩ (ih _ _ _ _ _ _ _ hr hR hroom hend)
            · cases hr
        · split at hr
          · next pc1 L1 S1 h1 hst =>
            have g2 := lrun_g _ _ _ _ _ _ _ _ _ hr
            exact ls_do X hC (by omega) (by omega) hini hX hbl hbs hd hok hst ⟨by have := g2.1; omega, by have := g2.2; omega⟩ (ih _ _ _ _ _ _ _ hr hR hroom hend)
          · cases hr
