/-! CALLS AND WHOLE RUNS OF THE ABSTRACT MACHINE OVER THE MACHINE -/
def xCode (P : List xM) (own : String) (ini : Bool) (cc : ByteArray) (C : xC) : Prop := ∀ (pc : Nat) (I : xI), C pc = some I → decode cc pc = .ok (I.1, I.2.1) ∧ xok own ini pc I.2.1 I.2.2 I.1 = true ∧ xcok P own I.2.2 I.1 = true
def xProg (P : List xM) : Prop := ∀ (k : Nat) (M : xM), P[k]? = some M → plainName M.1.cls = true ∧ xMem (.code M.1 M.2.1 M.2.2.1 M.2.2.2.1) ∧ xCode P M.1.cls (M.1.name == "<init>") M.2.1 M.2.2.2.2.2
def xws (M : xM) : List Cond := Cond.code M.1 M.2.1 M.2.2.1 M.2.2.2.1 :: lw_tbl.filter xgw
def xrm (d mc ms : Nat) : Room := { frames := d + 1, cells := mc, slots := ms, locals := 100 * (d + 1) }
def xPc (D : va_G) (cA : Nat → ClassId) (bs : Nat) (h : xH) (av : List Value) : Array Value → State → Prop := va_Pc av (fun U => xRel D cA bs h U.heap ∧ va_K D vwCl (xtys cA) U)
def xQc (D : va_G) (cA : Nat → ClassId) (bs : Nat) (h' : xH) (r : Option Value) : Array Value → State → Outcome → State → Prop := fun _ st o t => o = .returned (r.map (xcv bs)) ∧ xRel D cA bs h' t.heap ∧ ∀ q : Nat, q < st.heap.size → ¬ bs ≤ q → t.heap[q]? = st.heap[q]?
theorem xws_mem {M : xM} (h : xMem (.code M.1 M.2.1 M.2.2.1 M.2.2.2.1)) : ∀ w ∈ xws M, xMem w := by
  intro w hw
  rcases List.mem_cons.mp hw with rfl | hw
  · exact h
  · exact List.mem_filter.mp hw
theorem xblind {D : va_G} {cA : Nat → ClassId} {bs : Nat} {h : xH} {av : List Value} : FrameBlind (xPc D cA bs h av) := fun a U g mk q => ⟨q.1, q.2.1, va_K.moved (u := U) (U := U.calling g mk a) (Vm.Alike.refl U.vm) q.2.2⟩
section XC
variable {p : Program} {l : Launch} {e : Env} {R : Room} {s : State} {m : MethodId} {args : Array Value} {below : List Frame} {meth : Method} {c : Code} {Q : State → Prop}
variable {cc : ByteArray} {D : va_G} {cA : Nat → ClassId} {bs n0 z0 nL : Nat} {own : String}
theorem xs_back {H : Heap} {locs : List Loc} {ls : Array Slot} {cells slots mc ms pc : Nat} {st0 rest : List Value} {L : xL} {r : Option Value} {h' : xH} {av : Array Value} (hs0 : s.heap.size = bs + n0) (hr : va_Run p l e R s m args below meth c H locs cells slots mc ms (F0 m pc ls st0) (rest.map (xcv bs)) (xQc D cA bs h' r av) (fun q => bs ≤ q)) (hS : va_S (fun q => bs ≤ q) s.heap H locs) (hL : xlv bs ls nL L) (hc : cells + mc = h'.length - n0) (hs : slots + ms = xz h' - z0) (hn : n0 ≤ h'.length) (hz : z0 ≤ xz h')
    (k : xAt p l e R s m args below meth c Q D cA bs n0 z0 nL (pc + 3) L (r.toList ++ rest) h') : W p l e R s m args below meth c H locs cells slots Q (F0 m pc ls st0) := by
  intro T hT X
  obtain ⟨v, st₀, t, T', Lx, h0, X', hLx, e1, e2, ⟨hv, hrel, hfr⟩, st⟩ := hr T hT X
  obtain rfl : v = r.map (xcv bs) := by injection hv
  have hrel' : xRel D cA bs h' T'.heap := by rw [e1]; exact hrel
  have hS1 : va_S (fun q => bs ≤ q) s.heap T'.heap (locs ++ Lx) := by
    refine ⟨by have := hrel'.2; omega, fun q h1 h2 => ?_, fun q hq => ?_⟩
    · rw [e1, hfr q (by rw [h0]; exact Nat.lt_of_lt_of_le h1 hS.1) h2, h0]
      exact hS.2.1 q h1 h2
    · rcases List.mem_append.mp hq with h | h
      · exact hS.2.2 q h
      · exact hLx q h
  have K := k T'.heap (locs ++ Lx) ls hrel' hS1 hL hn hz
  rw [← hc, ← hs] at K
  obtain ⟨t2, a1, b1⟩ := K T' rfl X'
  refine ⟨t2, st t2 ?_, b1⟩
  have e9 : (r.toList ++ rest).map (xcv bs) = (r.map (xcv bs)).toList ++ rest.map (xcv bs) := by cases r <;> rfl
  rw [e9] at a1
  exact a1
theorem xs_cb (X : xCtx p s m args c cc nL own D cA bs n0) {M : xM} {n d mc ms : Nat} (hR : d + 2 ≤ R.frames ∧ 100 * (d + 2) ≤ R.locals) (hcode : xMem (.code M.1 M.2.1 M.2.2.1 M.2.2.2.1)) (g : xcall0 M n = true) :
    (xrm d mc ms).cells = mc ∧ (xrm d mc ms).slots = ms ∧ (xrm d mc ms).frames + 1 ≤ R.frames ∧ 8 + (M.2.2.1 + 11) + (xrm d mc ms).locals ≤ R.locals ∧ (∀ w ∈ xws M, ∀ (a' : Array Value) (U : State), s.WarmedH U.vm → w.before a' U = true) ∧ Cond.code M.1 M.2.1 M.2.2.1 M.2.2.2.1 ∈ xws M ∧ (Cond.code M.1 M.2.1 M.2.2.1 M.2.2.2.1).before args s = true ∧ (Cond.initialized M.1.cls).before args s = true ∧ (M.1.cls ≠ "java/lang/invoke/MethodHandle" ∧ M.1.cls ≠ "java/lang/invoke/VarHandle") ∧ (∀ sig, parseMethodDescriptor M.1.desc = some sig → n = sig.parameters.length) := by
  obtain ⟨hx, hb, hml, hown, hts, hK, hs0⟩ := X
  unfold xcall0 at g
  simp only [Bool.and_eq_true, decide_eq_true_eq] at g
  obtain ⟨⟨⟨g1, g2⟩, g3⟩, g4⟩ := g
  have g5 := Nat.le_of_ble_eq_true g4
  refine ⟨rfl, rfl, hR.1, ?_, fun w hw a' U hW => xgw_moved hW (xws_mem hcode w hw).2 (hts w (xws_mem hcode w hw)), List.mem_cons_self, hts _ hcode, hts _ g1, g2, fun sig hsig => ?_⟩
  · show 8 + (M.2.2.1 + 11) + 100 * (d + 1) ≤ R.locals
    omega
  · rw [hsig] at g3
    exact (Option.some.inj g3).symm
end XC
