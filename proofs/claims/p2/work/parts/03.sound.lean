/-! THE ABSTRACT MACHINE OVER THE MACHINE -/
def xcv (bs : Nat) : Value → Value
  | .ref i => .ref (bs + i)
  | v => v
def xca (bs : Nat) (a : vp_A) : vp_A := match a with
  | (n, .inr (.inr (.inr (.inr f)))) => (n, .inr (.inr (.inr (.inr (fun j => (f j).map (fun i => bs + i))))))
  | a => a
def xco (bs : Nat) (cA : Nat → ClassId) : xO → va_E
  | .inl (c, fs) => .inr (c, fs.map (xcv bs))
  | .inr (k, a) => .inl (cA k, xca bs a)
def xwd (bs : Nat) (cA : Nat → ClassId) (h : xH) : va_W := h.mapIdx (fun i o => (bs + i, xco bs cA o))
theorem xwd_get (bs : Nat) (cA : Nat → ClassId) (h : xH) (i : Nat) : (xwd bs cA h)[i]? = (h[i]?).map (fun o => (bs + i, xco bs cA o)) := by
  unfold xwd
  rw [List.getElem?_mapIdx]
theorem xwd_at {bs : Nat} {cA : Nat → ClassId} {h : xH} {i : Nat} {o : xO} (hi : h[i]? = some o) : (xwd bs cA h)[i]? = some (bs + i, xco bs cA o) := by
  rw [xwd_get, hi]; rfl
theorem xwd_set (bs : Nat) (cA : Nat → ClassId) (h : xH) (i : Nat) (o : xO) : (xwd bs cA h).set i (bs + i, xco bs cA o) = xwd bs cA (h.set i o) := by
  apply List.ext_getElem?
  intro j
  rw [xwd_get, List.getElem?_set, List.getElem?_set]
  have hlen : (xwd bs cA h).length = h.length := by unfold xwd; simp
  rw [hlen, xwd_get]
  by_cases hij : i = j
  · subst hij
    by_cases hl : i < h.length <;> simp [hl]
  · simp [hij]
theorem xwd_push (bs : Nat) (cA : Nat → ClassId) (h : xH) (o : xO) : xwd bs cA (h ++ [o]) = xwd bs cA h ++ [(bs + h.length, xco bs cA o)] := by
  unfold xwd
  simp
theorem xwd_D (bs : Nat) (cA : Nat → ClassId) (h : xH) : va_D (fun q => bs ≤ q) (xwd bs cA h) := by
  constructor
  · intro i j p q hp hq hpq
    rw [xwd_get] at hp hq
    cases hi : h[i]? with
    | none => rw [hi] at hp; cases hp
    | some a =>
      cases hj : h[j]? with
      | none => rw [hj] at hq; cases hq
      | some b =>
        rw [hi] at hp; rw [hj] at hq
        cases hp; cases hq
        have : bs + i = bs + j := hpq
        omega
  · intro k q hk
    rw [xwd_get] at hk
    cases hi : h[k]? with
    | none => rw [hi] at hk; cases hk
    | some a =>
      rw [hi] at hk
      cases hk
      show bs ≤ bs + k
      omega
def xRel (D : va_G) (cA : Nat → ClassId) (bs : Nat) (h : xH) (H : Heap) : Prop := va_P D vwCl (xwd bs cA h) H ∧ H.size = bs + h.length
def xlv (bs : Nat) (ls : Array Slot) (nL : Nat) (L : xL) : Prop := ls.size = nL ∧ L.length = nL ∧ lv_wf ls ∧ ∀ (i : Nat) (v : Value), L[i]? = some (some v) → ls[i]? = some (.val (xcv bs v))
def xsz : xO → Nat
  | .inl (_, fs) => fs.length
  | .inr (_, n, _) => n
def xz (h : xH) : Nat := (h.map xsz).sum
theorem xz_set {h : xH} {i : Nat} {o o' : xO} (hi : h[i]? = some o) (ho : xsz o' = xsz o) : xz (h.set i o') = xz h := by
  unfold xz
  rw [List.map_set, ho]
  congr 1
  apply List.ext_getElem?
  intro j
  rw [List.getElem?_set]
  by_cases hij : i = j
  · subst hij
    have hl : i < h.length := (List.getElem?_eq_some_iff.mp hi).1
    simp [hl]
    have := (List.getElem?_eq_some_iff.mp hi).2
    rw [this]
  · simp [hij]
theorem xz_push (h : xH) (o : xO) : xz (h ++ [o]) = xz h + xsz o := by
  unfold xz
  simp
abbrev xtys (cA : Nat → ClassId) : List (ClassId × FieldType) := [(cA 0, .int), (cA 1, .long), (cA 2, .boolean), (cA 3, .object RX10), (cA 4, .array .int)]
theorem xcv_cat (bs : Nat) (v : Value) : (xcv bs v).category = v.category := by cases v <;> rfl
section XS
variable {p : Program} {l : Launch} {e : Env} {R : Room} {s : State} {m : MethodId} {args : Array Value} {below : List Frame} {meth : Method} {c : Code} {Q : State → Prop}
variable {cc : ByteArray} {D : va_G} {cA : Nat → ClassId} {bs n0 z0 nL : Nat} {own : String}
def xAt (p : Program) (l : Launch) (e : Env) (R : Room) (s : State) (m : MethodId) (args : Array Value) (below : List Frame) (meth : Method) (c : Code) (Q : State → Prop) (D : va_G) (cA : Nat → ClassId) (bs n0 z0 nL : Nat) (pc : Nat) (L : xL) (S : List Value) (h : xH) : Prop :=
  ∀ (H : Heap) (locs : List Loc) (ls : Array Slot), xRel D cA bs h H → va_S (fun q => bs ≤ q) s.heap H locs → xlv bs ls nL L → n0 ≤ h.length → z0 ≤ xz h → W p l e R s m args below meth c H locs (h.length - n0) (xz h - z0) Q (F0 m pc ls (S.map (xcv bs)))
/-- the machine, the code, the tables' words, where the method's own cells begin -/
def xCtx (p : Program) (s : State) (m : MethodId) (args : Array Value) (c : Code) (cc : ByteArray) (nL : Nat) (own : String) (D : va_G) (cA : Nat → ClassId) (bs n0 : Nat) : Prop :=
  p.tables.exec = Jvm.exec ∧ c.code = cc ∧ c.maxLocals = nL ∧ s.vm.findClass own = some m.cls ∧ (∀ w ∈ lw_tbl, w.before args s = true) ∧ va_K D vwCl (xtys cA) s ∧ s.heap.size = bs + n0
theorem W.size {H : Heap} {locs : List Loc} {cells slots : Nat} {g : JFrame} (k : H.size ≤ s.heap.size + cells → W p l e R s m args below meth c H locs cells slots Q g) : W p l e R s m args below meth c H locs cells slots Q g := by
  intro T hT X
  refine k ?_ T hT X
  have h := X.same.2.2.1
  rw [← hT]
  exact h
/-- a step that changes the stack alone -/
theorem xs_ii {S : List Value} {pc : Nat} {L : xL} {h : xH} {f : Int32 → Int32 → Int32} {pc' : Nat} {L' : xL} {S' : List Value} {h' : xH}
    (row : ∀ (H : Heap) (locs : List Loc) (cells slots : Nat) (ls : Array Slot) (x y : Int32) (rest : List Value), W p l e R s m args below meth c H locs cells slots Q (F0 m (pc + 1) ls (.int (f x y) :: rest)) → W p l e R s m args below meth c H locs cells slots Q (F0 m pc ls (.int y :: .int x :: rest)))
    (hst : xii S pc L h f = some (.inl (pc', L', S', h'))) (k : xAt p l e R s m args below meth c Q D cA bs n0 z0 nL pc' L' S' h') : xAt p l e R s m args below meth c Q D cA bs n0 z0 nL pc L S h := by
  unfold xii at hst
  split at hst
  · unfold xgo at hst
    injection hst with e1; injection e1 with e2
    obtain ⟨rfl, rfl, rfl, rfl⟩ : pc + 1 = pc' ∧ L = L' ∧ _ = S' ∧ h = h' := by
      injection e2 with a1 a2; injection a2 with a2 a3; injection a3 with a3 a4; exact ⟨a1, a2, a3, a4⟩
    intro H locs ls hR hS hL hn hz
    exact row _ _ _ _ _ _ _ _ (k H locs ls hR hS hL hn hz)
  · cases hst
end XS
