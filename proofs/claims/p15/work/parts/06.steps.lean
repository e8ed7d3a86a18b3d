/-! ONE INSTRUCTION OF THE ABSTRACT MACHINE OVER THE MACHINE -/
section XD
variable {p : Program} {l : Launch} {e : Env} {R : Room} {s : State} {m : MethodId} {args : Array Value} {below : List Frame} {meth : Method} {c : Code} {Q : State → Prop}
variable {cc : ByteArray} {D : va_G} {cA : Nat → ClassId} {bs n0 z0 nL : Nat} {own : String}
theorem xs_ineg {S : List Value} {pc : Nat} {L : xL} {h : xH} {pc' : Nat} {L' : xL} {S' : List Value} {h' : xH} (X : xCtx p s m args c cc nL own D cA bs n0) (hd : decode cc pc = .ok (.ineg, 1))
    (hst : (match S with | .int x :: r => xgo (pc + 1) L (.int (-x) :: r) h | _ => none) = some (.inl (pc', L', S', h'))) (k : xAt p l e R s m args below meth c Q D cA bs n0 z0 nL pc' L' S' h') : xAt p l e R s m args below meth c Q D cA bs n0 z0 nL pc L S h := by
  split at hst
  · next x r =>
    obtain ⟨rfl, rfl, rfl, rfl⟩ := xgo_inj hst
    intro H locs ls hR hS hL hn hz
    exact lv_ineg X.1 X.2.1 hd (k H locs ls hR hS hL hn hz)
  · cases hst
theorem xs_lneg {S : List Value} {pc : Nat} {L : xL} {h : xH} {pc' : Nat} {L' : xL} {S' : List Value} {h' : xH} (X : xCtx p s m args c cc nL own D cA bs n0) (hd : decode cc pc = .ok (.lneg, 1))
    (hst : (match S with | .long x :: r => xgo (pc + 1) L (.long (-x) :: r) h | _ => none) = some (.inl (pc', L', S', h'))) (k : xAt p l e R s m args below meth c Q D cA bs n0 z0 nL pc' L' S' h') : xAt p l e R s m args below meth c Q D cA bs n0 z0 nL pc L S h := by
  split at hst
  · next x r =>
    obtain ⟨rfl, rfl, rfl, rfl⟩ := xgo_inj hst
    intro H locs ls hR hS hL hn hz
    exact lv_lneg X.1 X.2.1 hd (k H locs ls hR hS hL hn hz)
  · cases hst
theorem xs_i2l {S : List Value} {pc : Nat} {L : xL} {h : xH} {pc' : Nat} {L' : xL} {S' : List Value} {h' : xH} (X : xCtx p s m args c cc nL own D cA bs n0) (hd : decode cc pc = .ok (.i2l, 1))
    (hst : (match S with | .int x :: r => xgo (pc + 1) L (.long (x.toInt64) :: r) h | _ => none) = some (.inl (pc', L', S', h'))) (k : xAt p l e R s m args below meth c Q D cA bs n0 z0 nL pc' L' S' h') : xAt p l e R s m args below meth c Q D cA bs n0 z0 nL pc L S h := by
  split at hst
  · next x r =>
    obtain ⟨rfl, rfl, rfl, rfl⟩ := xgo_inj hst
    intro H locs ls hR hS hL hn hz
    exact lv_i2l X.1 X.2.1 hd rfl (k H locs ls hR hS hL hn hz)
  · cases hst
theorem xs_l2i {S : List Value} {pc : Nat} {L : xL} {h : xH} {pc' : Nat} {L' : xL} {S' : List Value} {h' : xH} (X : xCtx p s m args c cc nL own D cA bs n0) (hd : decode cc pc = .ok (.l2i, 1))
    (hst : (match S with | .long x :: r => xgo (pc + 1) L (.int (x.toInt32) :: r) h | _ => none) = some (.inl (pc', L', S', h'))) (k : xAt p l e R s m args below meth c Q D cA bs n0 z0 nL pc' L' S' h') : xAt p l e R s m args below meth c Q D cA bs n0 z0 nL pc L S h := by
  split at hst
  · next x r =>
    obtain ⟨rfl, rfl, rfl, rfl⟩ := xgo_inj hst
    intro H locs ls hR hS hL hn hz
    exact lv_l2i X.1 X.2.1 hd rfl (k H locs ls hR hS hL hn hz)
  · cases hst
theorem xcat {bs : Nat} {v : Value} {n : Nat} (h : v.category = n) : (xcv bs v).category = n := by rw [xcv_cat]; exact h
theorem xcats (bs : Nat) (r : List Value) : (r.map (xcv bs)).map (fun v => v.category) = r.map (fun v => v.category) := by
  rw [List.map_map]
  exact List.map_congr_left (fun v _ => xcv_cat bs v)
theorem xtab_in {x : Int32} {lo : Int} {offs : Array Int} {pc : Nat} {d : Int} (h1 : ¬ x.toInt < lo) (h2 : ¬ lo + (offs.size : Int) - 1 < x.toInt) (hp : ∀ o ∈ offs.toList, 0 ≤ (pc : Int) + o) : ∃ off, offs[(x.toInt - lo).toNat]? = some off ∧ (pc : Int) + off = ((xtab x lo (offs.toList.map fun o => ((pc : Int) + o).toNat) d.toNat : Nat) : Int) := by
  have hlt : (x.toInt - lo).toNat < offs.size := by omega
  refine ⟨offs[(x.toInt - lo).toNat], by simp [hlt], ?_⟩
  unfold xtab
  rw [if_neg h1, List.getElem?_map]
  have h3 : offs.toList[(x.toInt - lo).toNat]? = some offs[(x.toInt - lo).toNat] := by
    rw [List.getElem?_eq_getElem (by simpa using hlt)]
    simp
  rw [h3]
  have h4 := hp _ (List.mem_of_getElem? h3)
  show _ = (((pc : Int) + offs[(x.toInt - lo).toNat]).toNat : Int)
  omega
theorem xtab_out {x : Int32} {lo : Int} {offs : Array Int} {pc : Nat} {d : Int} (h : x.toInt < lo ∨ lo + (offs.size : Int) - 1 < x.toInt) : xtab x lo (offs.toList.map fun o => ((pc : Int) + o).toNat) d.toNat = d.toNat := by
  unfold xtab
  by_cases h1 : x.toInt < lo
  · rw [if_pos h1]
  · rw [if_neg h1, List.getElem?_map, List.getElem?_eq_none (by simp; omega)]
    rfl
theorem xlook_in (ps : List (Int × Int)) (d x : Int) (P : Int → Prop) (h : ∀ q ∈ ps, P q.2) (hd : P d) : P (Jvm.Op.lookupswitch.offset ps d x) := by
  induction ps with
  | nil => exact hd
  | cons q r ih =>
    unfold Jvm.Op.lookupswitch.offset
    split
    · exact h q List.mem_cons_self
    · exact ih (fun q hq => h q (List.mem_cons_of_mem _ hq))
theorem xs_mm {S : List Value} {pc kn : Nat} {L : xL} {h : xH} {idx : Nat} {pc' : Nat} {L' : xL} {S' : List Value} {h' : xH} (X : xCtx p s m args c cc nL own D cA bs n0) (hR1 : 1 ≤ R.frames) (hR2 : 100 ≤ R.locals) (hg : xgN own idx kn = true) (h0 : ¬ kn = 0) (hroom : h'.length - n0 ≤ R.cells ∧ xz h' - z0 ≤ R.slots) (hd : decode cc pc = .ok (.invokestatic idx, 3))
    (hst : xmm kn pc L S h = some (.inl (pc', L', S', h'))) (kk : xAt p l e R s m args below meth c Q D cA bs n0 z0 nL pc' L' S' h') : xAt p l e R s m args below meth c Q D cA bs n0 z0 nL pc L S h := by
  unfold xmm at hst
  split at hst
  · next y x r =>
    split at hst
    · next hc =>
      obtain ⟨rfl, rfl, rfl, rfl⟩ := xgo_inj hst
      obtain ⟨hx, hb, hml, hown, hts, hK, hs0⟩ := X
      intro H locs ls hR hS hL hn hz
      have K := kk H locs ls hR hS hL hn hz
      have hc2 : ((r.map (xcv bs)).map fun v => v.category).sum + 13 ≤ R.locals := by rw [xcats]; omega
      match kn, hg with
      | 0, _ => exact absurd rfl h0
      | 1, hg =>
        unfold xgN xgMM at hg
        simp only [Bool.and_eq_true, decide_eq_true_eq] at hg
        obtain ⟨⟨⟨g1, g2⟩, g3⟩, g4⟩ := hg
        exact va_mmax hx hb (hml.trans hL.1.symm) hown (hts _ g1) (hts _ g2) (hts _ g3) (hts _ g4) hR1 hc2 hroom.1 hroom.2 hd K
      | 2, hg =>
        unfold xgN xgMM at hg
        simp only [Bool.and_eq_true, decide_eq_true_eq] at hg
        obtain ⟨⟨⟨g1, g2⟩, g3⟩, g4⟩ := hg
        exact va_mmin hx hb (hml.trans hL.1.symm) hown (hts _ g1) (hts _ g2) (hts _ g3) (hts _ g4) hR1 hc2 hroom.1 hroom.2 hd K
      | n + 3, hg => cases hg
    · cases hst
  · cases hst
set_option maxHeartbeats 4000000 in
/-- one instruction that is no call and no end -/
theorem xs_do (X : xCtx p s m args c cc nL own D cA bs n0) (hC : xCls) (hR1 : 1 ≤ R.frames) (hR2 : 100 ≤ R.locals) {ini : Bool} (hini : ini = true → meth.name = "<init>") {pc len : Nat} {a : xA} {ins : Jvm.ClassFile.Instr} {L : xL} {S : List Value} {h : xH} {pc' : Nat} {L' : xL} {S' : List Value} {h' : xH}
    (hd : decode cc pc = .ok (ins, len)) (hok : xok own ini pc len a ins = true) (hst : xdo xty pc len a ins L S h = some (.inl (pc', L', S', h'))) (hroom : h'.length - n0 ≤ R.cells ∧ xz h' - z0 ≤ R.slots) (k : xAt p l e R s m args below meth c Q D cA bs n0 z0 nL pc' L' S' h') : xAt p l e R s m args below meth c Q D cA bs n0 z0 nL pc L S h := by
  obtain ⟨hx, hb, hml, hown, hts, hK, hs0⟩ := id X
  cases ins
  · simp only [xok, beq_iff_eq] at hok
    subst hok
    unfold xdo at hst
    exact xs_aldA X hd hst k
  · simp only [xok, Bool.and_eq_true, beq_iff_eq] at hok
    obtain ⟨rfl, ha⟩ := hok
    unfold xdo at hst
    exact xs_astA X ha hd hst k
  · cases hok
  · simp only [xok, Bool.and_eq_true, beq_iff_eq] at hok
    obtain ⟨rfl, ha⟩ := hok
    unfold xdo at hst
    rw [ha] at hst
    exact xs_ald (fun H locs cells slots ls x rest hl K => lv_aload hx hb hd hl K) hst k
  · simp only [xok, Bool.and_eq_true, beq_iff_eq] at hok
    obtain ⟨rfl, ha⟩ := hok
    unfold xdo at hst
    rw [ha] at hst
    exact xs_ald (fun H locs cells slots ls x rest hl K => lv_aload_n hx hb hd rfl hl K) hst k
  · simp only [xok, Bool.and_eq_true, beq_iff_eq, decide_eq_true_eq] at hok
    obtain ⟨⟨rfl, ha⟩, ha2⟩ := hok
    unfold xdo at hst
    exact xs_newQ X ha (va_AO.of (hts _ ha2)) hd hst hroom k
  · dsimp only [xdo] at hst
    split at hst <;> cases hst
  · simp only [xok, beq_iff_eq] at hok
    subst hok
    unfold xdo at hst
    exact xs_len X hd hst k
  · simp only [xok, Bool.and_eq_true, beq_iff_eq] at hok
    obtain ⟨rfl, ha⟩ := hok
    unfold xdo at hst
    rw [ha] at hst
    exact xs_ast (fun H locs cells slots ls x rest lv hl hi K => lv_astore hx hb hd hl hi rfl K) hst k
  · simp only [xok, Bool.and_eq_true, beq_iff_eq] at hok
    obtain ⟨rfl, ha⟩ := hok
    unfold xdo at hst
    rw [ha] at hst
    exact xs_ast (fun H locs cells slots ls x rest lv hl hi K => lv_astore_n hx hb hd rfl hl hi rfl K) hst k
  · cases hok
  · simp only [xok, beq_iff_eq] at hok
    subst hok
    unfold xdo at hst
    exact xs_aldI2 X hd hst k
  · simp only [xok, beq_iff_eq] at hok
    subst hok
    unfold xdo at hst
    exact xs_astI2 X hd hst k
  · simp only [xok, Bool.and_eq_true, beq_iff_eq, decide_eq_true_eq] at hok
    obtain ⟨rfl, ha⟩ := hok
    unfold xdo at hst
    obtain ⟨rfl, rfl, rfl, rfl⟩ := xgo_inj hst
    intro H locs ls hR hS hL hn hz
    have K := k H locs ls hR hS hL hn hz
    rw [ha] at K
    exact lv_bipush hx hb hd rfl K
  · cases hok
  · cases hok
  · cases hok
  · cases hok
  · cases hok
  · cases hok
  · cases hok
  · cases hok
  · cases hok
  · cases hok
  · cases hok
  · cases hok
  · cases hok
  · cases hok
  · cases hok
  · cases hok
  · cases hok
  · cases hok
  · cases hok
  · cases hok
  · cases hok
  · simp only [xok, beq_iff_eq] at hok
    subst hok
    dsimp only [xdo] at hst
    split at hst
    · split at hst
      · next hc =>
        obtain ⟨rfl, rfl, rfl, rfl⟩ := xgo_inj hst
        intro H locs ls hR hS hL hn hz
        exact lv_dup hx hb hd (xcat hc) (k H locs ls hR hS hL hn hz)
      · cases hst
    · cases hst
  · cases hok
  · cases hok
  · simp only [xok, beq_iff_eq] at hok
    subst hok
    dsimp only [xdo] at hst
    split at hst
    · split at hst
      · next hc =>
        obtain ⟨rfl, rfl, rfl, rfl⟩ := xgo_inj hst
        intro H locs ls hR hS hL hn hz
        exact lv_dup2_11 hx hb hd (xcat hc.1) (xcat hc.2) (k H locs ls hR hS hL hn hz)
      · cases hst
    · cases hst
  · cases hok
  · cases hok
  · cases hok
  · cases hok
  · cases hok
  · cases hok
  · cases hok
  · cases hok
  · cases hok
  · cases hok
  · cases hok
  · cases hok
  · cases hok
  · cases hok
  · cases hok
  · cases hok
  · cases hok
  · cases hok
  · cases hok
  · cases hok
  · simp only [xok, Bool.and_eq_true, beq_iff_eq] at hok
    obtain ⟨rfl, ha⟩ := hok
    unfold xdo at hst
    exact xs_get X hC ha hd hst k
  · cases hok
  · simp only [xok, xtgt, Bool.and_eq_true, beq_iff_eq, decide_eq_true_eq] at hok
    obtain ⟨rfl, ht⟩ := hok
    unfold xdo at hst
    obtain ⟨rfl, rfl, rfl, rfl⟩ := xgo_inj hst
    intro H locs ls hR hS hL hn hz
    exact lv_goto hx hb hd ht (k H locs ls hR hS hL hn hz)
  · cases hok
  · cases hok
  · cases hok
  · cases hok
  · cases hok
  · simp only [xok, beq_iff_eq] at hok
    subst hok
    unfold xdo at hst
    exact xs_i2l X hd hst k
  · cases hok
  · simp only [xok, beq_iff_eq] at hok
    subst hok
    unfold xdo at hst
    exact xs_ii (fun H locs cells slots ls x y rest K => lv_iadd hx hb hd K) hst k
  · simp only [xok, beq_iff_eq] at hok
    subst hok
    unfold xdo at hst
    exact xs_aldI0 X hd hst k
  · simp only [xok, beq_iff_eq] at hok
    subst hok
    unfold xdo at hst
    exact xs_ii (fun H locs cells slots ls x y rest K => lv_iand hx hb hd K) hst k
  · simp only [xok, beq_iff_eq] at hok
    subst hok
    unfold xdo at hst
    exact xs_astI0 X hd hst k
  · simp only [xok, Bool.and_eq_true, beq_iff_eq, decide_eq_true_eq] at hok
    obtain ⟨rfl, ha⟩ := hok
    unfold xdo at hst
    obtain ⟨rfl, rfl, rfl, rfl⟩ := xgo_inj hst
    intro H locs ls hR hS hL hn hz
    have K := k H locs ls hR hS hL hn hz
    rw [ha] at K
    exact lv_iconst hx hb hd rfl K
  · simp only [xok, beq_iff_eq] at hok
    subst hok
    unfold xdo at hst
    exact xs_dd (fun H locs cells slots ls x y rest hne K => lv_idiv hx hb hd hne K) hst k
  · cases hok
  · next cnd off =>
    simp only [xok, xtgt, Bool.and_eq_true, beq_iff_eq, decide_eq_true_eq] at hok
    obtain ⟨rfl, ht⟩ := hok
    cases cnd
    · unfold xdo at hst
      exact xs_cm (fun H locs cells slots ls x y rest kt kf => lv_icmp_eq hx hb hd ht (fun q => kt (decide_eq_true q)) (fun q => kf (decide_eq_false q))) hst k
    · unfold xdo at hst
      exact xs_cm (fun H locs cells slots ls x y rest kt kf => lv_icmp_ne hx hb hd ht (fun q => kt (decide_eq_true q)) (fun q => kf (decide_eq_false (fun n => n q)))) hst k
    · unfold xdo at hst
      exact xs_cm (fun H locs cells slots ls x y rest kt kf => lv_icmp_lt hx hb hd ht (fun q => kt (decide_eq_true q)) (fun q => kf (decide_eq_false q))) hst k
    · unfold xdo at hst
      exact xs_cm (fun H locs cells slots ls x y rest kt kf => lv_icmp_ge hx hb hd ht (fun q => kt (decide_eq_true q)) (fun q => kf (decide_eq_false q))) hst k
    · unfold xdo at hst
      exact xs_cm (fun H locs cells slots ls x y rest kt kf => lv_icmp_gt hx hb hd ht (fun q => kt (decide_eq_true q)) (fun q => kf (decide_eq_false q))) hst k
    · unfold xdo at hst
      exact xs_cm (fun H locs cells slots ls x y rest kt kf => lv_icmp_le hx hb hd ht (fun q => kt (decide_eq_true q)) (fun q => kf (decide_eq_false q))) hst k
  · next cnd off =>
    simp only [xok, xtgt, Bool.and_eq_true, beq_iff_eq, decide_eq_true_eq] at hok
    obtain ⟨rfl, ht⟩ := hok
    cases cnd
    · unfold xdo at hst
      exact xs_if (fun H locs cells slots ls x rest kt kf => lv_if_eq hx hb hd ht (fun q => kt (decide_eq_true q)) (fun q => kf (decide_eq_false q))) hst k
    · unfold xdo at hst
      exact xs_if (fun H locs cells slots ls x rest kt kf => lv_if_ne hx hb hd ht (fun q => kt (decide_eq_true q)) (fun q => kf (decide_eq_false (fun n => n q)))) hst k
    · unfold xdo at hst
      exact xs_if (fun H locs cells slots ls x rest kt kf => lv_if_lt hx hb hd ht (fun q => kt (decide_eq_true q)) (fun q => kf (decide_eq_false q))) hst k
    · unfold xdo at hst
      exact xs_if (fun H locs cells slots ls x rest kt kf => lv_if_ge hx hb hd ht (fun q => kt (decide_eq_true q)) (fun q => kf (decide_eq_false q))) hst k
    · unfold xdo at hst
      exact xs_if (fun H locs cells slots ls x rest kt kf => lv_if_gt hx hb hd ht (fun q => kt (decide_eq_true q)) (fun q => kf (decide_eq_false q))) hst k
    · unfold xdo at hst
      exact xs_if (fun H locs cells slots ls x rest kt kf => lv_if_le hx hb hd ht (fun q => kt (decide_eq_true q)) (fun q => kf (decide_eq_false q))) hst k
  · cases hok
  · cases hok
  · simp only [xok, Bool.and_eq_true, beq_iff_eq, decide_eq_true_eq] at hok
    obtain ⟨⟨rfl, ha⟩, ha2⟩ := hok
    unfold xdo at hst
    rw [ha, ha2] at hst
    exact xs_inc (fun H locs cells slots ls x rest lv k9 hl hk hi K => lv_iinc hx hb hd hl hk rfl hi rfl K) hst k
  · simp only [xok, Bool.and_eq_true, beq_iff_eq] at hok
    obtain ⟨rfl, ha⟩ := hok
    unfold xdo at hst
    rw [ha] at hst
    exact xs_ild (fun H locs cells slots ls x rest hl K => lv_iload hx hb hd hl K) hst k
  · simp only [xok, Bool.and_eq_true, beq_iff_eq] at hok
    obtain ⟨rfl, ha⟩ := hok
    unfold xdo at hst
    rw [ha] at hst
    exact xs_ild (fun H locs cells slots ls x rest hl K => lv_iload_n hx hb hd rfl hl K) hst k
  · simp only [xok, beq_iff_eq] at hok
    subst hok
    unfold xdo at hst
    exact xs_ii (fun H locs cells slots ls x y rest K => lv_imul hx hb hd K) hst k
  · simp only [xok, beq_iff_eq] at hok
    subst hok
    unfold xdo at hst
    exact xs_ineg X hd hst k
  · cases hok
  · cases hok
  · cases hok
  · simp only [xok, Bool.and_eq_true, beq_iff_eq] at hok
    obtain ⟨rfl, ha⟩ := hok
    dsimp only [xdo] at hst
    split at hst
    · next hv =>
      rw [hv] at ha
      simp only [Bool.and_eq_true, decide_eq_true_eq] at ha
      obtain ⟨⟨g1, g2⟩, g3⟩ := ha
      split at hst
      · next i r =>
        split at hst
        · next hc =>
          obtain ⟨rfl, rfl, rfl, rfl⟩ := xgo_inj hst
          intro H locs ls hR hS hL hn hz
          refine W.objInit hx hb hown (hts _ g1) (hts _ g2) (hts _ g3) rfl (hL.1.trans hml.symm) rfl hd hR1 ?_ ?_
          · show 2 * 0 + ((r.map (xcv bs)).map fun v => v.category).sum + 12 ≤ R.locals
            rw [xcats]
            omega
          · exact k H locs ls hR hS hL hn hz
        · cases hst
      · cases hst
    · unfold xcall at hst
      split at hst <;> cases hst
  · simp only [xok, Bool.and_eq_true, beq_iff_eq] at hok
    obtain ⟨rfl, ha⟩ := hok
    dsimp only [xdo] at hst
    split at hst
    · next hv =>
      rw [hv] at ha
      dsimp only at ha
      split at hst
      · next h0 =>
        rw [h0] at ha
        exact xs_cpy X hR1 hR2 ha hd hst k
      · next h0 => exact xs_mm X hR1 hR2 ha h0 hroom hd hst k
    · unfold xcall at hst
      split at hst <;> cases hst
  · dsimp only [xdo, xcall] at hst
    split at hst <;> cases hst
  · simp only [xok, beq_iff_eq] at hok
    subst hok
    unfold xdo at hst
    exact xs_ii (fun H locs cells slots ls x y rest K => lv_ior hx hb hd K) hst k
  · simp only [xok, beq_iff_eq] at hok
    subst hok
    unfold xdo at hst
    exact xs_dd (fun H locs cells slots ls x y rest hne K => lv_irem hx hb hd hne K) hst k
  · dsimp only [xdo] at hst
    split at hst <;> cases hst
  · simp only [xok, beq_iff_eq] at hok
    subst hok
    unfold xdo at hst
    exact xs_ii (fun H locs cells slots ls x y rest K => lv_ishl hx hb hd K) hst k
  · simp only [xok, beq_iff_eq] at hok
    subst hok
    unfold xdo at hst
    exact xs_ii (fun H locs cells slots ls x y rest K => lv_ishr hx hb hd K) hst k
  · simp only [xok, Bool.and_eq_true, beq_iff_eq] at hok
    obtain ⟨rfl, ha⟩ := hok
    unfold xdo at hst
    rw [ha] at hst
    exact xs_ist (fun H locs cells slots ls x rest lv hl hi K => lv_istore hx hb hd hl hi rfl K) hst k
  · simp only [xok, Bool.and_eq_true, beq_iff_eq] at hok
    obtain ⟨rfl, ha⟩ := hok
    unfold xdo at hst
    rw [ha] at hst
    exact xs_ist (fun H locs cells slots ls x rest lv hl hi K => lv_istore_n hx hb hd rfl hl hi rfl K) hst k
  · simp only [xok, beq_iff_eq] at hok
    subst hok
    unfold xdo at hst
    exact xs_ii (fun H locs cells slots ls x y rest K => lv_isub hx hb hd K) hst k
  · simp only [xok, beq_iff_eq] at hok
    subst hok
    unfold xdo at hst
    exact xs_ii (fun H locs cells slots ls x y rest K => lv_iushr hx hb hd rfl K) hst k
  · simp only [xok, beq_iff_eq] at hok
    subst hok
    unfold xdo at hst
    exact xs_ii (fun H locs cells slots ls x y rest K => lv_ixor hx hb hd K) hst k
  · cases hok
  · cases hok
  · cases hok
  · cases hok
  · simp only [xok, beq_iff_eq] at hok
    subst hok
    unfold xdo at hst
    exact xs_l2i X hd hst k
  · simp only [xok, beq_iff_eq] at hok
    subst hok
    unfold xdo at hst
    exact xs_ll (fun H locs cells slots ls x y rest K => lv_ladd hx hb hd K) hst k
  · simp only [xok, beq_iff_eq] at hok
    subst hok
    unfold xdo at hst
    exact xs_aldL X hd hst k
  · simp only [xok, beq_iff_eq] at hok
    subst hok
    unfold xdo at hst
    exact xs_ll (fun H locs cells slots ls x y rest K => lv_land hx hb hd K) hst k
  · simp only [xok, beq_iff_eq] at hok
    subst hok
    unfold xdo at hst
    exact xs_astL X hd hst k
  · simp only [xok, beq_iff_eq] at hok
    subst hok
    dsimp only [xdo] at hst
    split at hst
    · obtain ⟨rfl, rfl, rfl, rfl⟩ := xgo_inj hst
      intro H locs ls hR hS hL hn hz
      exact W.lcmp hx hb hd (k H locs ls hR hS hL hn hz)
    · cases hst
  · simp only [xok, Bool.and_eq_true, beq_iff_eq, decide_eq_true_eq] at hok
    obtain ⟨rfl, ha⟩ := hok
    unfold xdo at hst
    obtain ⟨rfl, rfl, rfl, rfl⟩ := xgo_inj hst
    intro H locs ls hR hS hL hn hz
    have K := k H locs ls hR hS hL hn hz
    rw [ha] at K
    exact lv_lconst hx hb hd rfl K
  · simp only [xok, Bool.and_eq_true, beq_iff_eq] at hok
    obtain ⟨rfl, ha⟩ := hok
    unfold xdo at hst
    obtain ⟨rfl, rfl, rfl, rfl⟩ := xgo_inj hst
    intro H locs ls hR hS hL hn hz
    have K := k H locs ls hR hS hL hn hz
    split at ha
    · next v hv =>
      rw [decide_eq_true_eq] at ha
      rw [hv] at K
      exact lv_ldc hx hb hown (hts _ ha) hd K
    · cases ha
  · simp only [xok, Bool.and_eq_true, beq_iff_eq] at hok
    obtain ⟨rfl, ha⟩ := hok
    unfold xdo at hst
    obtain ⟨rfl, rfl, rfl, rfl⟩ := xgo_inj hst
    intro H locs ls hR hS hL hn hz
    have K := k H locs ls hR hS hL hn hz
    split at ha
    · next v hv =>
      rw [decide_eq_true_eq] at ha
      rw [hv] at K
      exact lv_ldcw hx hb hown (hts _ ha) hd K
    · cases ha
  · simp only [xok, Bool.and_eq_true, beq_iff_eq] at hok
    obtain ⟨rfl, ha⟩ := hok
    unfold xdo at hst
    obtain ⟨rfl, rfl, rfl, rfl⟩ := xgo_inj hst
    intro H locs ls hR hS hL hn hz
    have K := k H locs ls hR hS hL hn hz
    split at ha
    · next v hv =>
      rw [decide_eq_true_eq] at ha
      rw [hv] at K
      exact lv_ldc2 hx hb hown (hts _ ha) hd K
    · cases ha
  · cases hok
  · simp only [xok, Bool.and_eq_true, beq_iff_eq] at hok
    obtain ⟨rfl, ha⟩ := hok
    unfold xdo at hst
    rw [ha] at hst
    exact xs_lld (fun H locs cells slots ls x rest hl K => lv_lload hx hb hd hl K) hst k
  · simp only [xok, Bool.and_eq_true, beq_iff_eq] at hok
    obtain ⟨rfl, ha⟩ := hok
    unfold xdo at hst
    rw [ha] at hst
    exact xs_lld (fun H locs cells slots ls x rest hl K => lv_lload_n hx hb hd rfl hl K) hst k
  · cases hok
  · simp only [xok, beq_iff_eq] at hok
    subst hok
    unfold xdo at hst
    exact xs_lneg X hd hst k
  · next d ps =>
    simp only [xok, Bool.and_eq_true, decide_eq_true_eq] at hok
    obtain ⟨⟨h1, h2⟩, h3⟩ := hok
    dsimp only [xdo] at hst
    split at hst
    · next x r =>
      obtain ⟨rfl, rfl, rfl, rfl⟩ := xgo_inj hst
      intro H locs ls hR hS hL hn hz
      have K := k H locs ls hR hS hL hn hz
      have h4 : 0 ≤ (pc : Int) + Jvm.Op.lookupswitch.offset ps.toList d x.toInt := xlook_in _ _ _ (fun o => 0 ≤ (pc : Int) + o) (fun q hq => of_decide_eq_true (List.all_eq_true.mp h2 q hq)) h3
      exact lv_lookup hx hb hd h1 rfl (by omega) K
    · cases hst
  · simp only [xok, beq_iff_eq] at hok
    subst hok
    unfold xdo at hst
    exact xs_ll (fun H locs cells slots ls x y rest K => lv_lor hx hb hd K) hst k
  · cases hok
  · dsimp only [xdo] at hst
    split at hst <;> cases hst
  · simp only [xok, beq_iff_eq] at hok
    subst hok
    unfold xdo at hst
    exact xs_li (fun H locs cells slots ls x y rest K => lv_lshl hx hb hd rfl K) hst k
  · simp only [xok, beq_iff_eq] at hok
    subst hok
    unfold xdo at hst
    exact xs_li (fun H locs cells slots ls x y rest K => lv_lshr hx hb hd rfl K) hst k
  · simp only [xok, Bool.and_eq_true, beq_iff_eq] at hok
    obtain ⟨rfl, ha⟩ := hok
    unfold xdo at hst
    rw [ha] at hst
    exact xs_lst (fun H locs cells slots ls x rest lv hl hi K => lv_lstore hx hb hd hl hi rfl K) hst k
  · simp only [xok, Bool.and_eq_true, beq_iff_eq] at hok
    obtain ⟨rfl, ha⟩ := hok
    unfold xdo at hst
    rw [ha] at hst
    exact xs_lst (fun H locs cells slots ls x rest lv hl hi K => lv_lstore_n hx hb hd rfl hl hi rfl K) hst k
  · simp only [xok, beq_iff_eq] at hok
    subst hok
    unfold xdo at hst
    exact xs_ll (fun H locs cells slots ls x y rest K => lv_lsub hx hb hd K) hst k
  · simp only [xok, beq_iff_eq] at hok
    subst hok
    unfold xdo at hst
    exact xs_li (fun H locs cells slots ls x y rest K => lv_lushr hx hb hd rfl K) hst k
  · simp only [xok, beq_iff_eq] at hok
    subst hok
    unfold xdo at hst
    exact xs_ll (fun H locs cells slots ls x y rest K => lv_lxor hx hb hd K) hst k
  · cases hok
  · cases hok
  · simp only [xok, Bool.and_eq_true, beq_iff_eq, decide_eq_true_eq] at hok
    obtain ⟨⟨⟨⟨rfl, rfl⟩, ha⟩, ha2⟩, ha3⟩ := hok
    unfold xdo at hst
    exact xs_newM X ha (hts _ ha2) ha3 hd hst hroom k
  · simp only [xok, Bool.and_eq_true, beq_iff_eq] at hok
    obtain ⟨rfl, ha⟩ := hok
    split at ha
    · next q hq =>
      simp only [Bool.and_eq_true, beq_iff_eq, decide_eq_true_eq, List.all_eq_true, List.mem_range] at ha
      obtain ⟨⟨⟨⟨g1, g2⟩, g3⟩, g4⟩, g5⟩ := ha
      unfold xdo at hst
      obtain ⟨rfl, rfl, rfl, rfl⟩ := xgo_inj hst
      rw [g1] at k hroom
      rw [List.length_append, List.length_singleton, xz_push, show xsz (.inl (a.2.1, (List.range q.2.2).map (fun k => xzero (xty a.2.1 k)))) = q.2.2 by simp [xsz]] at hroom
      exact xs_new X hC hq rfl rfl g2 g3 g4 g5 hd hroom k
    · cases ha
  · next at9 =>
    cases at9
    · simp only [xok, Bool.and_eq_true, beq_iff_eq, decide_eq_true_eq] at hok
      obtain ⟨rfl, ha⟩ := hok
      unfold xdo at hst
      exact xs_newP X (ty := .boolean) rfl rfl ha (by decide) (fun n cB => rfl) hd hst hroom k
    · cases hok
    · cases hok
    · cases hok
    · cases hok
    · cases hok
    · simp only [xok, Bool.and_eq_true, beq_iff_eq, decide_eq_true_eq] at hok
      obtain ⟨rfl, ha⟩ := hok
      unfold xdo at hst
      exact xs_newP X (ty := .int) rfl rfl ha (by decide) (fun n cB => rfl) hd hst hroom k
    · simp only [xok, Bool.and_eq_true, beq_iff_eq, decide_eq_true_eq] at hok
      obtain ⟨rfl, ha⟩ := hok
      unfold xdo at hst
      exact xs_newP X (ty := .long) rfl rfl ha (by decide) (fun n cB => rfl) hd hst hroom k
  · cases hok
  · simp only [xok, beq_iff_eq] at hok
    subst hok
    dsimp only [xdo] at hst
    split at hst
    · split at hst
      · next hc =>
        obtain ⟨rfl, rfl, rfl, rfl⟩ := xgo_inj hst
        intro H locs ls hR hS hL hn hz
        exact lv_pop hx hb hd (xcat hc) (k H locs ls hR hS hL hn hz)
      · cases hst
    · cases hst
  · simp only [xok, beq_iff_eq] at hok
    subst hok
    dsimp only [xdo] at hst
    split at hst
    · split at hst
      · next hc =>
        obtain ⟨rfl, rfl, rfl, rfl⟩ := xgo_inj hst
        intro H locs ls hR hS hL hn hz
        exact lv_pop2_2 hx hb hd (xcat hc) (k H locs ls hR hS hL hn hz)
      · cases hst
    · cases hst
  · simp only [xok, Bool.and_eq_true, beq_iff_eq] at hok
    obtain ⟨⟨rfl, ha⟩, ha2⟩ := hok
    unfold xdo at hst
    exact xs_put X hC hini ha ha2 hd hst k
  · cases hok
  · cases hok
  · dsimp only [xdo] at hst
    split at hst <;> cases hst
  · cases hok
  · cases hok
  · simp only [xok, Bool.and_eq_true, beq_iff_eq, decide_eq_true_eq] at hok
    obtain ⟨rfl, ha⟩ := hok
    unfold xdo at hst
    obtain ⟨rfl, rfl, rfl, rfl⟩ := xgo_inj hst
    intro H locs ls hR hS hL hn hz
    have K := k H locs ls hR hS hL hn hz
    rw [ha] at K
    exact lv_sipush hx hb hd rfl K
  · cases hok
  · next d lo hi offs =>
    simp only [xok, Bool.and_eq_true, decide_eq_true_eq, List.all_eq_true] at hok
    obtain ⟨⟨rfl, ha⟩, hb9⟩ := hok
    dsimp only [xdo] at hst
    split at hst
    · next x r =>
      obtain ⟨rfl, rfl, rfl, rfl⟩ := xgo_inj hst
      intro H locs ls hR hS hL hn hz
      have K := k H locs ls hR hS hL hn hz
      by_cases h1 : x.toInt < lo ∨ lo + (offs.size : Int) - 1 < x.toInt
      · rw [xtab_out h1] at K
        exact lv_tableOut hx hb hd h1 (by omega) K
      · obtain ⟨off, g1, g2⟩ := xtab_in (d := (pc : Int) + d) (fun q => h1 (Or.inl q)) (fun q => h1 (Or.inr q)) ha
        exact lv_tableIn hx hb hd (fun q => h1 (Or.inl q)) (fun q => h1 (Or.inr q)) g1 g2 K
    · cases hst
end XD
