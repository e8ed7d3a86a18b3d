section XW
variable {p : Program} {l : Launch} {e : Env} {R : Room} {s : State} {m : MethodId} {args : Array Value} {below : List Frame} {meth : Method} {c : Code} {Q : State → Prop}
variable {cc : ByteArray} {D : va_G} {cA : Nat → ClassId} {bs n0 z0 nL : Nat} {own : String}
theorem xrcv_spec {ci : Nat} {h : xH} {as : List Value} (hr : xrcv (ci + 1) h as = true) : ∃ (i : Nat) (as' fs : List Value), as = .ref i :: as' ∧ h[i]? = some (.inl (ci, fs)) := by
  cases as with
  | nil => cases hr
  | cons v as' =>
    cases v with
    | ref i =>
      unfold xrcv at hr
      dsimp only at hr
      split at hr
      · next c2 fs hi =>
        rw [beq_iff_eq] at hr
        subst hr
        exact ⟨i, as', fs, rfl, hi⟩
      · cases hr
    | _ => cases hr
theorem xlen_pos {a : xA} {r : Nat} {as : List Value} (h : as.length = a.2.2 + r) {b : Value} {bs' : List Value} (e : as = b :: bs') (hr : r = 1) : bs'.length = a.2.2 := by
  subst e; subst hr
  simpa using h
theorem xmap_rev (bs : Nat) (as rest : List Value) : (as.reverse ++ rest).map (xcv bs) = (as.map (xcv bs)).reverse ++ rest.map (xcv bs) := by simp
theorem xmap_recv (bs i : Nat) (as rest : List Value) : ((Value.ref i :: as).reverse ++ rest).map (xcv bs) = (as.map (xcv bs)).reverse ++ .ref (bs + i) :: rest.map (xcv bs) := by simp [xcv]
/-- a call, by the callee's contract -/
theorem xs_call {P : List xM} {M : xM} {ini : Bool} {d pc : Nat} {I : xI} {L : xL} {S : List Value} {h h' : xH} {r : Option Value} {q : Nat × List Value × List Value} (X : xCtx p s m args c cc nL own D cA bs n0) (hR : d + 2 ≤ R.frames ∧ 100 * (d + 2) ≤ R.locals) (hM : P[q.1]? = some M) (hcode : xMem (.code M.1 M.2.1 M.2.2.1 M.2.2.2.1)) (hd : decode cc pc = .ok (I.1, I.2.1)) (hok : xok own ini pc I.2.1 I.2.2 I.1 = true) (hcok : xcok P own I.2.2 I.1 = true) (hcl : xcl I.1 I.2.2 S = some q) (hrcv : xrcv M.2.2.2.2.1 h q.2.1 = true)
    (hMet : Met l M.1 (xws M) (xrm d (h'.length - h.length) (xz h' - xz h)) (xPc D cA bs h (q.2.1.map (xcv bs))) (xQc D cA bs h' r) (h'.length - h.length) (xz h' - xz h) (fun q => bs ≤ q)) (hg : xge h h') (hroom : h'.length - n0 ≤ R.cells ∧ xz h' - z0 ≤ R.slots)
    (k : xAt p l e R s m args below meth c Q D cA bs n0 z0 nL (pc + 3) L (r.toList ++ q.2.2) h') : xAt p l e R s m args below meth c Q D cA bs n0 z0 nL pc L S h := by
  obtain ⟨hx, hb, hml, hown, hts, hK, hs0⟩ := id X
  intro H locs ls hRel hS hL hn hz
  have hCF : CallFix p m c cc nL s args [] own := ⟨hx, hb, hml, hown, fun w hw => absurd hw List.not_mem_nil⟩
  have hPS : ∀ U : State, U.heap = H → s.WarmedH U.vm → xPc D cA bs h (q.2.1.map (xcv bs)) (q.2.1.map (xcv bs)).toArray U := fun U hU hW => ⟨rfl, by rw [hU]; exact hRel, va_K.moved hW.alike hK⟩
  have hf : h.length - n0 + (h'.length - h.length) ≤ R.cells ∧ xz h - z0 + (xz h' - xz h) ≤ R.slots := ⟨by have := hg.1; omega, by have := hg.2; omega⟩
  have back : ∀ (av : Array Value), va_Run p l e R s m args below meth c H locs (h.length - n0) (xz h - z0) (h'.length - h.length) (xz h' - xz h) (F0 m pc ls (S.map (xcv bs))) (q.2.2.map (xcv bs)) (xQc D cA bs h' r av) (fun q => bs ≤ q) → W p l e R s m args below meth c H locs (h.length - n0) (xz h - z0) Q (F0 m pc ls (S.map (xcv bs))) := fun av hr =>
    xs_back hs0 hr hS hL (by have := hg.1; omega) (by have := hg.2; omega) (by have := hg.1; omega) (by have := hg.2; omega) k
  have recv : ∀ ci : Nat, M.2.2.2.2.1 = ci + 1 → ∃ (i : Nat) (as' fs : List Value), q.2.1 = .ref i :: as' ∧ h[i]? = some (.inl (ci, fs)) := by
    intro ci e1
    rw [e1] at hrcv
    exact xrcv_spec hrcv
  rcases xcl_cases hcl with ⟨i, hi, h0⟩ | ⟨i, hi, hnn, h0⟩ | ⟨i, hi, hnn, h0⟩
  · obtain ⟨hSe, hlen, hcat, hq1⟩ := xcl0_spec h0
    rw [hi] at hd hok hcok
    simp only [xok, beq_iff_eq] at hok
    rw [hok] at hd
    unfold xcok at hcok
    dsimp only at hcok
    rw [← hq1, hM] at hcok
    dsimp only at hcok
    simp only [Bool.and_eq_true, decide_eq_true_eq] at hcok
    obtain ⟨⟨⟨⟨g0, g1⟩, g2⟩, g3⟩, g4⟩ := hcok
    cases hkd : M.2.2.2.2.1 with
    | zero => rw [hkd] at g0; cases g0
    | succ ci =>
      rw [hkd] at g0
      dsimp only at g0
      rw [beq_iff_eq] at g0
      obtain ⟨qq, hqq, hcls⟩ := Option.map_eq_some_iff.mp g0
      obtain ⟨o, as', fs, e1, e2⟩ := recv ci hkd
      have hcb := xs_cb (n := I.2.2.2.2) X hR hcode g4 (mc := h'.length - h.length) (ms := xz h' - xz h)
      have hrecv := va_recv hK hRel.1 hqq (xwd_at e2)
      rw [hcls] at hrecv
      rw [e1] at hSe hlen hPS hMet
      refine back _ (va_runV (C := M.1.cls) (b := bs + o) (As := as'.map (xcv bs)) hCF hMet ⟨⟨hcb.1, hcb.2.1, hcb.2.2.1, hcb.2.2.2.1, hcb.2.2.2.2.1, hcb.2.2.2.2.2.1, hcb.2.2.2.2.2.2.1, hcb.2.2.2.2.2.2.2.1, hcb.2.2.2.2.2.2.2.2.1, hcb.2.2.2.2.2.2.2.2.2, hts _ g1⟩, hts _ g2, hts _ g3⟩ ⟨xblind, hrecv, hPS⟩ rfl (by rw [List.length_map]; simpa using hlen) hL.1 (by rw [hSe]; exact xmap_recv bs o as' q.2.2) (by show 2 * 0 + _ ≤ 8; rw [xcats]; omega) hd hf)
  · obtain ⟨hSe, hlen, hcat, hq1⟩ := xcl0_spec h0
    rw [hi] at hd hok hcok
    simp only [xok, Bool.and_eq_true, beq_iff_eq] at hok
    rw [hok.1] at hd
    unfold xcok at hcok
    dsimp only at hcok
    split at hcok
    · next hnull => exact absurd hnull hnn
    · rw [← hq1, hM] at hcok
      dsimp only at hcok
      simp only [Bool.and_eq_true, decide_eq_true_eq, beq_iff_eq] at hcok
      obtain ⟨⟨⟨g0, g1⟩, g3⟩, g4⟩ := hcok
      have hcb := xs_cb (n := I.2.2.2.2) X hR hcode g4 (mc := h'.length - h.length) (ms := xz h' - xz h)
      refine back _ (va_runS (As := q.2.1.map (xcv bs)) hCF hMet ⟨⟨hcb.1, hcb.2.1, hcb.2.2.1, hcb.2.2.2.1, hcb.2.2.2.2.1, hcb.2.2.2.2.2.1, hcb.2.2.2.2.2.2.1, hcb.2.2.2.2.2.2.2.1, hcb.2.2.2.2.2.2.2.2.1, hcb.2.2.2.2.2.2.2.2.2, hts _ g1⟩, hts _ g3⟩ ⟨xblind, hPS⟩ rfl (by rw [List.length_map]; simpa using hlen) hL.1 (by rw [hSe]; exact xmap_rev bs q.2.1 q.2.2) (by show 2 * 0 + _ ≤ 8; rw [xcats]; omega) hd hf)
    · rw [← hq1, hM] at hcok
      dsimp only at hcok
      simp only [Bool.and_eq_true, decide_eq_true_eq, beq_iff_eq] at hcok
      obtain ⟨⟨⟨g0, g1⟩, g3⟩, g4⟩ := hcok
      have hcb := xs_cb (n := I.2.2.2.2) X hR hcode g4 (mc := h'.length - h.length) (ms := xz h' - xz h)
      refine back _ (va_runSN (As := q.2.1.map (xcv bs)) hCF hMet ⟨⟨⟨hcb.1, hcb.2.1, hcb.2.2.1, hcb.2.2.2.1, hcb.2.2.2.2.1, hcb.2.2.2.2.2.1⟩, hcb.2.2.2.2.2.2.1, hcb.2.2.2.2.2.2.2.1, hcb.2.2.2.2.2.2.2.2.1, hcb.2.2.2.2.2.2.2.2.2, hts _ g1⟩, hts _ g3, trivial⟩ ⟨xblind, hPS⟩ rfl (by rw [List.length_map]; simpa using hlen) hL.1 (by rw [hSe]; exact xmap_rev bs q.2.1 q.2.2) (by show 2 * 0 + _ ≤ 8; rw [xcats]; omega) hd hf)
    · cases hcok
  · obtain ⟨hSe, hlen, hcat, hq1⟩ := xcl0_spec h0
    rw [hi] at hd hok hcok
    simp only [xok, Bool.and_eq_true, beq_iff_eq] at hok
    rw [hok.1] at hd
    unfold xcok at hcok
    dsimp only at hcok
    split at hcok
    · next hnull => exact absurd hnull hnn
    · rw [← hq1, hM] at hcok
      dsimp only at hcok
      simp only [Bool.and_eq_true, decide_eq_true_eq, beq_iff_eq, Bool.not_eq_true', beq_eq_false_iff_ne] at hcok
      obtain ⟨⟨⟨⟨⟨g0, g5⟩, g6⟩, g1⟩, g3⟩, g4⟩ := hcok
      have hcb := xs_cb (n := I.2.2.2.2) X hR hcode g4 (mc := h'.length - h.length) (ms := xz h' - xz h)
      obtain ⟨ci, hkd⟩ := Nat.exists_eq_succ_of_ne_zero g0
      obtain ⟨o, as', fs, e1, e2⟩ := recv ci hkd
      rw [e1] at hSe hlen hPS hMet
      rw [g6] at hcb
      refine back _ (va_runI (b := bs + o) (As := as'.map (xcv bs)) hCF hMet ⟨⟨hcb.1, hcb.2.1, hcb.2.2.1, hcb.2.2.2.1, hcb.2.2.2.2.1, hcb.2.2.2.2.2.1, hcb.2.2.2.2.2.2.1, hcb.2.2.2.2.2.2.2.1, hcb.2.2.2.2.2.2.2.2.1, hcb.2.2.2.2.2.2.2.2.2, hts _ g1⟩, g5, hts _ g3⟩ ⟨xblind, hPS⟩ rfl (by rw [List.length_map]; simpa using hlen) hL.1 (by rw [hSe]; exact xmap_recv bs o as' q.2.2) (by show 2 * 0 + _ ≤ 8; rw [xcats]; omega) hd hf)
    · rw [← hq1, hM] at hcok
      dsimp only at hcok
      simp only [Bool.and_eq_true, decide_eq_true_eq, beq_iff_eq, Bool.not_eq_true', beq_eq_false_iff_ne] at hcok
      obtain ⟨⟨⟨⟨⟨g0, g5⟩, g6⟩, g1⟩, g3⟩, g4⟩ := hcok
      have hcb := xs_cb (n := I.2.2.2.2) X hR hcode g4 (mc := h'.length - h.length) (ms := xz h' - xz h)
      obtain ⟨ci, hkd⟩ := Nat.exists_eq_succ_of_ne_zero g0
      obtain ⟨o, as', fs, e1, e2⟩ := recv ci hkd
      rw [e1] at hSe hlen hPS hMet
      rw [g6] at hcb
      refine back _ (va_runIN (b := bs + o) (As := as'.map (xcv bs)) hCF hMet ⟨⟨⟨hcb.1, hcb.2.1, hcb.2.2.1, hcb.2.2.2.1, hcb.2.2.2.2.1, hcb.2.2.2.2.2.1⟩, hcb.2.2.2.2.2.2.1, hcb.2.2.2.2.2.2.2.1, hcb.2.2.2.2.2.2.2.2.1, hcb.2.2.2.2.2.2.2.2.2, hts _ g1⟩, g5, hts _ g3⟩ ⟨xblind, hPS⟩ rfl (by rw [List.length_map]; simpa using hlen) hL.1 (by rw [hSe]; exact xmap_recv bs o as' q.2.2) (by show 2 * 0 + _ ≤ 8; rw [xcats]; omega) hd hf)
    · cases hcok
end XW
/-- THE ABSTRACT MACHINE IS TRUE OF THE MACHINE -/
theorem xs_run {P : List xM} (hP : xProg P) (hC : xCls) : ∀ n, xOK P n := by
  intro n
  induction n with
  | zero => intro d C pc L S h r h' hr; cases hr
  | succ n ih =>
    intro d C pc L S h r h' hr p l e R s m args below meth c Q cc D cA bs n0 z0 nL own ini X hCode hini hR hroom hend
    unfold xrun at hr
    split at hr
    · cases hr
    · next I hI =>
      obtain ⟨hd, hok, hcok⟩ := hCode pc I hI
      split at hr
      · next r1 he =>
        injection hr with hr
        injection hr with h1 h2
        subst h1; subst h2
        exact hend pc I L S hI he
      · split at hr
        · next q hcl =>
          split at hr
          · cases hr
          · next d' =>
            split at hr
            · next M hM =>
              cases hx : (xrcv M.2.2.2.2.1 h q.2.1 && Nat.ble (q.2.1.map fun v => v.category).sum M.2.2.1) with
              | false => rw [hx, cond_false] at hr; cases hr
              | true =>
                rw [hx, cond_true] at hr
                rw [Bool.and_eq_true] at hx
                split at hr
                · cases hr
                · next r1 h1 hr1 =>
                  cases hy : xret M.2.2.2.1 r1 with
                  | false => rw [hy, cond_false] at hr; cases hr
                  | true =>
                    rw [hy, cond_true] at hr
                    have g1 := xrun_g _ _ _ _ _ _ _ _ _ hr1
                    have g2 := xrun_g _ _ _ _ _ _ _ _ _ hr
                    have hMet := xs_met hP ih hM hr1 hy (Nat.le_of_ble_eq_true hx.2) l D cA bs
                    exact xs_call X hR hM (hP _ M hM).2.1 hd hok hcok hcl hx.1 hMet g1 ⟨by have := g2.1; omega, by have := g2.2; omega⟩ (ih _ _ _ _ _ _ _ _ hr p l e R s m args below meth c Q cc D cA bs n0 z0 nL own ini X hCode hini hR hroom hend)
            · cases hr
        · split at hr
          · next pc1 L1 S1 h1 hst =>
            have g2 := xrun_g _ _ _ _ _ _ _ _ _ hr
            exact xs_do X hC (by omega) (by omega) hini hd hok hst ⟨by have := g2.1; omega, by have := g2.2; omega⟩ (ih _ _ _ _ _ _ _ _ hr p l e R s m args below meth c Q cc D cA bs n0 z0 nL own ini X hCode hini hR hroom hend)
          · cases hr
