def xfm (vs : List Value) : xL := vs.flatMap fun v => if v.category = 2 then [some v, none] else [some v]
theorem xfm_len (vs : List Value) : (xfm vs).length = (vs.map fun v => v.category).sum := by
  induction vs with
  | nil => rfl
  | cons v vs ih =>
    show (List.flatMap _ (v :: vs)).length = _
    rw [List.flatMap_cons, List.length_append, List.map_cons, List.sum_cons]
    have e : (List.flatMap (fun v => if v.category = 2 then [some v, none] else [some v]) vs : xL).length = (vs.map fun v => v.category).sum := ih
    rw [e]
    rcases lv_cat v with h | h <;> simp [h]
def xsl (bs : Nat) : Option Value → Slot
  | some v => .val (xcv bs v)
  | none => .second
theorem xfm_sl (bs : Nat) (vs : List Value) : lg_sl (vs.map (xcv bs)) = (xfm vs).map (xsl bs) := by
  induction vs with
  | nil => rfl
  | cons v vs ih =>
    have e : lg_sl ((v :: vs).map (xcv bs)) = (if (xcv bs v).category = 2 then [.val (xcv bs v), .second] else [.val (xcv bs v)]) ++ lg_sl (vs.map (xcv bs)) := by
      unfold lg_sl
      rw [List.map_cons, List.flatMap_cons]
    have e2 : xfm (v :: vs) = (if v.category = 2 then [some v, none] else [some v]) ++ xfm vs := by
      unfold xfm
      rw [List.flatMap_cons]
    rw [e, e2, ih, List.map_append, xcv_cat]
    rcases lv_cat v with h | h <;> simp [h, xsl]
theorem xent_lv (bs : Nat) {vs : List Value} {n : Nat} (h : (vs.map fun v => v.category).sum ≤ n) : xlv bs ((lg_sl (vs.map (xcv bs)) ++ List.replicate (n - (lg_sl (vs.map (xcv bs))).length) Slot.unset).toArray) n (xent n vs) := by
  have hl : (lg_sl (vs.map (xcv bs))).length ≤ n := by rw [xfm_sl, List.length_map, xfm_len]; exact h
  have H := lv_entry (vs.map (xcv bs)) (n := n) hl
  have e : xent n vs = xfm vs ++ List.replicate (n - (xfm vs).length) none := rfl
  refine ⟨H.1, ?_, H.2.1, fun i v hi => ?_⟩
  · rw [e, List.length_append, List.length_replicate, xfm_len]; omega
  · rw [e] at hi
    rw [List.getElem?_toArray]
    by_cases hlt : i < (xfm vs).length
    · rw [List.getElem?_append_left hlt] at hi
      rw [List.getElem?_append_left (by rw [xfm_sl, List.length_map]; exact hlt), xfm_sl, List.getElem?_map, hi]
      rfl
    · rw [List.getElem?_append_right (by omega), List.getElem?_replicate] at hi
      split at hi <;> cases hi
theorem xcl0_spec {a : xA} {r : Nat} {S : List Value} {q : Nat × List Value × List Value} (h : xcl0 a r S = some q) : S = q.2.1.reverse ++ q.2.2 ∧ q.2.1.length = a.2.2 + r ∧ (q.2.2.map fun v => v.category).sum ≤ 8 ∧ q.1 = a.2.1 := by
  unfold xcl0 at h
  cases hb : (Nat.ble (a.2.2 + r) S.length && Nat.ble ((S.drop (a.2.2 + r)).map fun v => v.category).sum 8) with
  | false => rw [hb, cond_false] at h; cases h
  | true =>
    rw [hb, cond_true] at h
    cases h
    rw [Bool.and_eq_true] at hb
    have h1 := Nat.le_of_ble_eq_true hb.1
    have h2 := Nat.le_of_ble_eq_true hb.2
    refine ⟨by simp, by simp; omega, h2, rfl⟩
theorem xcl_cases {ins : Jvm.ClassFile.Instr} {a : xA} {S : List Value} {q : Nat × List Value × List Value} (h : xcl ins a S = some q) : (∃ i, ins = .invokevirtual i ∧ xcl0 a 1 S = some q) ∨ (∃ i, ins = .invokestatic i ∧ a.1 ≠ .null ∧ xcl0 a 0 S = some q) ∨ (∃ i, ins = .invokespecial i ∧ a.1 ≠ .null ∧ xcl0 a 1 S = some q) := by
  unfold xcl at h
  split at h
  · exact Or.inl ⟨_, rfl, h⟩
  · split at h
    · cases h
    · next hn => exact Or.inr (Or.inl ⟨_, rfl, fun q => hn q, h⟩)
  · split at h
    · cases h
    · next hn => exact Or.inr (Or.inr ⟨_, rfl, fun q => hn q, h⟩)
  · cases h
section XC
variable {p : Program} {l : Launch} {e : Env} {R : Room} {s : State} {m : MethodId} {args : Array Value} {below : List Frame} {meth : Method} {c : Code} {Q : State → Prop}
variable {cc : ByteArray} {D : va_G} {cA : Nat → ClassId} {bs n0 z0 nL : Nat} {own : String}
/-- the end of a method, by its contract -/
theorem xs_end {pc len : Nat} {ins : Jvm.ClassFile.Instr} {a : xA} {ini : Bool} {L : xL} {S : List Value} {h : xH} {r : Option Value} {ret : Option FieldType} (X : xCtx p s m args c cc nL own D cA bs n0) (hret : xret ret r = true) (hsig : meth.sig.returnType = ret) (hlocks : meth.locks = false) (hd : decode cc pc = .ok (ins, len)) (hok : xok own ini pc len a ins = true) (he : xend ins S = some r) {mc ms : Nat} (hmc : h.length - n0 = mc) (hms : xz h - z0 = ms) :
    xAt p l e R s m args below meth c (MQ below (xQc D cA bs h r) args s mc ms (fun q => bs ≤ q)) D cA bs n0 z0 nL pc L S h := by
  obtain ⟨hx, hb, hml, hown, hts, hK, hs0⟩ := X
  subst hmc; subst hms
  have fin : ∀ (H : Heap) (locs : List Loc), xRel D cA bs h H → va_S (fun q => bs ≤ q) s.heap H locs → ∀ t : State, t.heap = H → s.WarmedH t.vm → xQc D cA bs h r args s (.returned (r.map (xcv bs))) t := fun H locs hR hS t ht hW => ⟨rfl, by rw [ht]; exact hR, fun q h1 h2 => by rw [ht]; exact hS.2.1 q h1 h2⟩
  unfold xend at he
  split at he
  · injection he with he; subst he
    simp only [xok, beq_iff_eq] at hok; subst hok
    intro H locs ls hR hS hL hn hz
    cases ret with
    | none => cases hret
    | some ty => exact W.zret hx hb hsig (xfit_ok bs hret).1 (fin H locs hR hS) hS.2.2 hd hlocks
  · injection he with he; subst he
    simp only [xok, beq_iff_eq] at hok; subst hok
    intro H locs ls hR hS hL hn hz
    cases ret with
    | none => cases hret
    | some ty => cases ty <;> first | cases hret; done | exact W.lret hx hb hsig (fin H locs hR hS) hS.2.2 hd hlocks
  · injection he with he; subst he
    simp only [xok, beq_iff_eq] at hok; subst hok
    intro H locs ls hR hS hL hn hz
    cases ret with
    | none => cases hret
    | some ty => cases ty <;> first | cases hret; done | exact W.aret hx hb hsig (Or.inl ⟨_, rfl⟩) (Or.inr ⟨_, rfl⟩) (fin H locs hR hS) hS.2.2 hd hlocks | exact W.aret hx hb hsig (Or.inr ⟨_, rfl⟩) (Or.inr ⟨_, rfl⟩) (fin H locs hR hS) hS.2.2 hd hlocks
  · injection he with he; subst he
    simp only [xok, beq_iff_eq] at hok; subst hok
    intro H locs ls hR hS hL hn hz
    cases ret with
    | none => exact W.vret hx hb hsig (fin H locs hR hS) hS.2.2 hd hlocks
    | some ty => cases hret
  · cases he
end XC
/-- what a run of n steps says of the machine -/
def xOK (P : List xM) (n : Nat) : Prop := ∀ (d : Nat) (C : xC) (pc : Nat) (L : xL) (S : List Value) (h : xH) (r : Option Value) (h' : xH), xrun xty P n d C pc L S h = some (r, h') →
  ∀ (p : Program) (l : Launch) (e : Env) (R : Room) (s : State) (m : MethodId) (args : Array Value) (below : List Frame) (meth : Method) (c : Code) (Q : State → Prop) (cc : ByteArray) (D : va_G) (cA : Nat → ClassId) (bs n0 z0 nL : Nat) (own : String) (ini : Bool),
    xCtx p s m args c cc nL own D cA bs n0 → xCode P own ini cc C → (ini = true → meth.name = "<init>") → d + 1 ≤ R.frames ∧ 100 * (d + 1) ≤ R.locals → h'.length - n0 ≤ R.cells ∧ xz h' - z0 ≤ R.slots →
    (∀ (pc1 : Nat) (I : xI) (L1 : xL) (S1 : List Value), C pc1 = some I → xend I.1 S1 = some r → xAt p l e R s m args below meth c Q D cA bs n0 z0 nL pc1 L1 S1 h') →
    xAt p l e R s m args below meth c Q D cA bs n0 z0 nL pc L S h
/-- a method's contract out of a run of it -/
theorem xs_met {P : List xM} (hP : xProg P) {n d k : Nat} (IH : xOK P n) {M : xM} (hM : P[k]? = some M) {as : List Value} {h h' : xH} {r : Option Value} (hrun : xrun xty P n d M.2.2.2.2.2 0 (xent M.2.2.1 as) [] h = some (r, h')) (hret : xret M.2.2.2.1 r = true) (hfit : (as.map fun v => v.category).sum ≤ M.2.2.1) (l : Launch) (D : va_G) (cA : Nat → ClassId) (bs : Nat) :
    Met l M.1 (xws M) (xrm d (h'.length - h.length) (xz h' - xz h)) (xPc D cA bs h (as.map (xcv bs))) (xQc D cA bs h' r) (h'.length - h.length) (xz h' - xz h) (fun q => bs ≤ q) := by
  obtain ⟨hpl, hcode, hC⟩ := hP k M hM
  have hg := xrun_g _ _ _ _ _ _ _ _ _ hrun
  refine Met.ofW (cc := M.2.1) (maxL := M.2.2.1) (ret := M.2.2.2.1) hpl rfl ?_
  intro p e s m args below meth c s₁ B hml hv
  obtain ⟨rfl, hRel, hK⟩ := hv
  have hts0 := atoms_spec (ws := xws M) B.pre
  have hts : ∀ w, xMem w → w.before (as.map (xcv bs)).toArray s = true := fun w hw => hts0 w (List.mem_cons_of_mem _ (List.mem_filter.mpr hw))
  have X : xCtx p s m (as.map (xcv bs)).toArray c M.2.1 M.2.2.1 M.1.cls D cA bs h.length := ⟨B.exec, B.bytes, hml, findClass_of_methodNamed B.named, hts, hK, hRel.2⟩
  have hini : (M.1.name == "<init>") = true → meth.name = "<init>" := fun q => (name_of_methodNamed B.named B.method).1.trans (beq_iff_eq.mp q)
  have hend : ∀ (pc1 : Nat) (I : xI) (L1 : xL) (S1 : List Value), M.2.2.2.2.2 pc1 = some I → xend I.1 S1 = some r → xAt p l e (headSpec (xws M) (xrm d (h'.length - h.length) (xz h' - xz h))).room s m (as.map (xcv bs)).toArray below meth c (MQ below (xQc D cA bs h' r) (as.map (xcv bs)).toArray s (h'.length - h.length) (xz h' - xz h) (fun q => bs ≤ q)) D cA bs h.length (xz h) M.2.2.1 pc1 L1 S1 h' := fun pc1 I L1 S1 h1 h2 => xs_end X hret B.returns B.notSynchronized (hC pc1 I h1).1 (hC pc1 I h1).2.1 h2 rfl rfl
  have A := IH d M.2.2.2.2.2 0 _ _ _ _ _ hrun p l e (headSpec (xws M) (xrm d (h'.length - h.length) (xz h' - xz h))).room s m (as.map (xcv bs)).toArray below meth c _ M.2.1 D cA bs h.length (xz h) M.2.2.1 M.1.cls (M.1.name == "<init>") X hC hini ⟨Nat.le_refl _, Nat.le_refl _⟩ ⟨Nat.le_refl _, Nat.le_refl _⟩ hend
  have K := A s.heap [] _ hRel va_S.rf (xent_lv bs hfit) (Nat.le_refl _) (Nat.le_refl _)
  rw [Nat.sub_self, Nat.sub_self] at K
  rw [lg_entry_eq]
  exact K
