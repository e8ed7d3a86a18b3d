/-! THE ABSTRACT MACHINE OVER THE MACHINE -/
/-- .retAddr k stands for the cell k itself, no object of ours (the script) -/
def xcv (bs : Nat) : Value → Value
  | .ref i => .ref (bs + i)
  | .retAddr k => .ref k
  | v => v
def xca (bs : Nat) (a : vp_A) : vp_A := match a with
  | (n, .inr (.inr (.inr (.inr f)))) => (n, .inr (.inr (.inr (.inr (fun j => (f j).map (fun i => bs + i))))))
  | a => a
def xco (bs : Nat) (cA : Nat → ClassId) : xO → va_E
  | .inl (c, fs) => .inr (c, fs.map (xcv bs))
  | .inr (k, a) => .inl (cA k, xca bs a)
def xwd (bs : Nat) (cA : Nat → ClassId) (h : xH) : va_W := h.mapIdx (fun i o => (bs + i, xco bs cA o))
theorem xwd_get (bs : Nat) (cA : Nat → ClassId) (h : xH) (i : Nat) : (xwd bs cA h)[i]? = (h[i]?).map (fun o => (bs + i, xco bs cA o)) := by
  unfold xwd
  rw [List.getElem?_mapIdx]
theorem xwd_at {bs : Nat} {cA : Nat → ClassId} {h : xH} {i : Nat} {o : xO} (hi : h[i]? = some o) : (xwd bs cA h)[i]? = some (bs + i, xco bs cA o) := by
  rw [xwd_get, hi]; rfl
theorem xwd_set (bs : Nat) (cA : Nat → ClassId) (h : xH) (i : Nat) (o : xO) : (xwd bs cA h).set i (bs + i, xco bs cA o) = xwd bs cA (h.set i o) := by
  apply List.ext_getElem?
  intro j
  rw [xwd_get, List.getElem?_set, List.getElem?_set]
  have hlen : (xwd bs cA h).length = h.length := by unfold xwd; simp
  rw [hlen, xwd_get]
  by_cases hij : i = j
  · subst hij
    by_cases hl : i < h.length <;> simp [hl]
  · simp [hij]
theorem xwd_push (bs : Nat) (cA : Nat → ClassId) (h : xH) (o : xO) : xwd bs cA (h ++ [o]) = xwd bs cA h ++ [(bs + h.length, xco bs cA o)] := by
  unfold xwd
  simp
theorem xwd_D (bs : Nat) (cA : Nat → ClassId) (h : xH) : va_D (fun q => bs ≤ q) (xwd bs cA h) := by
  constructor
  · intro i j p q hp hq hpq
    rw [xwd_get] at hp hq
    cases hi : h[i]? with
    | none => rw [hi] at hp; cases hp
    | some a =>
      cases hj : h[j]? with
      | none => rw [hj] at hq; cases hq
      | some b =>
        rw [hi] at hp; rw [hj] at hq
        cases hp; cases hq
        have : bs + i = bs + j := hpq
        omega
  · intro k q hk
    rw [xwd_get] at hk
    cases hi : h[k]? with
    | none => rw [hi] at hk; cases hk
    | some a =>
      rw [hi] at hk
      cases hk
      show bs ≤ bs + k
      omega
def xRel (D : va_G) (cA : Nat → ClassId) (bs : Nat) (h : xH) (H : Heap) : Prop := va_P D vwCl (xwd bs cA h) H ∧ H.size = bs + h.length
def xlv (bs : Nat) (ls : Array Slot) (nL : Nat) (L : xL) : Prop := ls.size = nL ∧ L.length = nL ∧ lv_wf ls ∧ ∀ (i : Nat) (v : Value), L[i]? = some (some v) → ls[i]? = some (.val (xcv bs v))
def xsz : xO → Nat
  | .inl (_, fs) => fs.length
  | .inr (_, n, _) => n
def xz (h : xH) : Nat := (h.map xsz).sum
theorem xz_set {h : xH} {i : Nat} {o o' : xO} (hi : h[i]? = some o) (ho : xsz o' = xsz o) : xz (h.set i o') = xz h := by
  unfold xz
  rw [List.map_set, ho]
  congr 1
  apply List.ext_getElem?
  intro j
  rw [List.getElem?_set]
  by_cases hij : i = j
  · subst hij
    have hl : i < h.length := (List.getElem?_eq_some_iff.mp hi).1
    simp [hl]
    have := (List.getElem?_eq_some_iff.mp hi).2
    rw [this]
  · simp [hij]
theorem xz_push (h : xH) (o : xO) : xz (h ++ [o]) = xz h + xsz o := by
  unfold xz
  simp
abbrev xtys (cA : Nat → ClassId) : List (ClassId × FieldType) := [(cA 0, .int), (cA 1, .long), (cA 2, .boolean), (cA 3, .object RX10), (cA 4, .array .int)]
theorem xcv_cat (bs : Nat) (v : Value) : (xcv bs v).category = v.category := by cases v <;> rfl
section XS
variable {p : Program} {l : Launch} {e : Env} {R : Room} {s : State} {m : MethodId} {args : Array Value} {below : List Frame} {meth : Method} {c : Code} {Q : State → Prop}
variable {cc : ByteArray} {D : va_G} {cA : Nat → ClassId} {bs n0 z0 nL : Nat} {own : String}
def xAt (p : Program) (l : Launch) (e : Env) (R : Room) (s : State) (m : MethodId) (args : Array Value) (below : List Frame) (meth : Method) (c : Code) (Q : State → Prop) (D : va_G) (cA : Nat → ClassId) (bs n0 z0 nL : Nat) (pc : Nat) (L : xL) (S : List Value) (h : xH) : Prop :=
  ∀ (H : Heap) (locs : List Loc) (ls : Array Slot), xRel D cA bs h H → va_S (fun q => bs ≤ q) s.heap H locs → xlv bs ls nL L → n0 ≤ h.length → z0 ≤ xz h → W p l e R s m args below meth c H locs (h.length - n0) (xz h - z0) Q (F0 m pc ls (S.map (xcv bs)))
/-- the machine, the code, the tables' words, where the method's own cells begin -/
def xCtx (p : Program) (s : State) (m : MethodId) (args : Array Value) (c : Code) (cc : ByteArray) (nL : Nat) (own : String) (D : va_G) (cA : Nat → ClassId) (bs n0 : Nat) : Prop :=
  p.tables.exec = Jvm.exec ∧ c.code = cc ∧ c.maxLocals = nL ∧ s.vm.findClass own = some m.cls ∧ (∀ w, xMem w → w.before args s = true) ∧ va_K D vwCl (xtys cA) s ∧ s.heap.size = bs + n0
theorem W.size {H : Heap} {locs : List Loc} {cells slots : Nat} {g : JFrame} (k : H.size ≤ s.heap.size + cells → W p l e R s m args below meth c H locs cells slots Q g) : W p l e R s m args below meth c H locs cells slots Q g := by
  intro T hT X
  refine k ?_ T hT X
  have h := X.same.2.2.1
  rw [← hT]
  exact h
theorem xgo_inj {pc : Nat} {L : xL} {S : List Value} {h : xH} {pc' : Nat} {L' : xL} {S' : List Value} {h' : xH} (e : xgo pc L S h = some (.inl (pc', L', S', h'))) : pc = pc' ∧ L = L' ∧ S = S' ∧ h = h' := by
  unfold xgo at e
  injection e with e1; injection e1 with e2
  injection e2 with a1 a2; injection a2 with a2 a3; injection a3 with a3 a4
  exact ⟨a1, a2, a3, a4⟩
theorem xs_ii {S : List Value} {pc : Nat} {L : xL} {h : xH} {f : Int32 → Int32 → Int32} {pc' : Nat} {L' : xL} {S' : List Value} {h' : xH}
    (row : ∀ (H : Heap) (locs : List Loc) (cells slots : Nat) (ls : Array Slot) (x : Int32) (y : Int32) (rest : List Value), W p l e R s m args below meth c H locs cells slots Q (F0 m (pc + 1) ls (.int (f x y) :: rest)) → W p l e R s m args below meth c H locs cells slots Q (F0 m pc ls (.int y :: .int x :: rest)))
    (hst : xii S pc L h f = some (.inl (pc', L', S', h'))) (k : xAt p l e R s m args below meth c Q D cA bs n0 z0 nL pc' L' S' h') : xAt p l e R s m args below meth c Q D cA bs n0 z0 nL pc L S h := by
  unfold xii at hst
  split at hst
  · obtain ⟨rfl, rfl, rfl, rfl⟩ := xgo_inj hst
    intro H locs ls hR hS hL hn hz
    exact row _ _ _ _ _ _ _ _ (k H locs ls hR hS hL hn hz)
  · cases hst
theorem xs_dd {S : List Value} {pc : Nat} {L : xL} {h : xH} {f : Int32 → Int32 → Int32} {pc' : Nat} {L' : xL} {S' : List Value} {h' : xH}
    (row : ∀ (H : Heap) (locs : List Loc) (cells slots : Nat) (ls : Array Slot) (x : Int32) (y : Int32) (rest : List Value), ¬ y = 0 → W p l e R s m args below meth c H locs cells slots Q (F0 m (pc + 1) ls (.int (f x y) :: rest)) → W p l e R s m args below meth c H locs cells slots Q (F0 m pc ls (.int y :: .int x :: rest)))
    (hst : xdd S pc L h f = some (.inl (pc', L', S', h'))) (k : xAt p l e R s m args below meth c Q D cA bs n0 z0 nL pc' L' S' h') : xAt p l e R s m args below meth c Q D cA bs n0 z0 nL pc L S h := by
  unfold xdd at hst
  split at hst
  · split at hst
    · cases hst
    · next hne =>
      obtain ⟨rfl, rfl, rfl, rfl⟩ := xgo_inj hst
      intro H locs ls hR hS hL hn hz
      exact row _ _ _ _ _ _ _ _ hne (k H locs ls hR hS hL hn hz)
  · cases hst
theorem xs_ll {S : List Value} {pc : Nat} {L : xL} {h : xH} {f : Int64 → Int64 → Int64} {pc' : Nat} {L' : xL} {S' : List Value} {h' : xH}
    (row : ∀ (H : Heap) (locs : List Loc) (cells slots : Nat) (ls : Array Slot) (x : Int64) (y : Int64) (rest : List Value), W p l e R s m args below meth c H locs cells slots Q (F0 m (pc + 1) ls (.long (f x y) :: rest)) → W p l e R s m args below meth c H locs cells slots Q (F0 m pc ls (.long y :: .long x :: rest)))
    (hst : xll S pc L h f = some (.inl (pc', L', S', h'))) (k : xAt p l e R s m args below meth c Q D cA bs n0 z0 nL pc' L' S' h') : xAt p l e R s m args below meth c Q D cA bs n0 z0 nL pc L S h := by
  unfold xll at hst
  split at hst
  · obtain ⟨rfl, rfl, rfl, rfl⟩ := xgo_inj hst
    intro H locs ls hR hS hL hn hz
    exact row _ _ _ _ _ _ _ _ (k H locs ls hR hS hL hn hz)
  · cases hst
theorem xs_li {S : List Value} {pc : Nat} {L : xL} {h : xH} {f : Int64 → Int32 → Int64} {pc' : Nat} {L' : xL} {S' : List Value} {h' : xH}
    (row : ∀ (H : Heap) (locs : List Loc) (cells slots : Nat) (ls : Array Slot) (x : Int64) (y : Int32) (rest : List Value), W p l e R s m args below meth c H locs cells slots Q (F0 m (pc + 1) ls (.long (f x y) :: rest)) → W p l e R s m args below meth c H locs cells slots Q (F0 m pc ls (.int y :: .long x :: rest)))
    (hst : xli S pc L h f = some (.inl (pc', L', S', h'))) (k : xAt p l e R s m args below meth c Q D cA bs n0 z0 nL pc' L' S' h') : xAt p l e R s m args below meth c Q D cA bs n0 z0 nL pc L S h := by
  unfold xli at hst
  split at hst
  · obtain ⟨rfl, rfl, rfl, rfl⟩ := xgo_inj hst
    intro H locs ls hR hS hL hn hz
    exact row _ _ _ _ _ _ _ _ (k H locs ls hR hS hL hn hz)
  · cases hst
theorem xs_if {S : List Value} {pc : Nat} {L : xL} {h : xH} {tgt : Nat} {f : Int32 → Bool} {pc' : Nat} {L' : xL} {S' : List Value} {h' : xH}
    (row : ∀ (H : Heap) (locs : List Loc) (cells slots : Nat) (ls : Array Slot) (x : Int32) (rest : List Value), (f x = true → W p l e R s m args below meth c H locs cells slots Q (F0 m tgt ls (rest))) → (f x = false → W p l e R s m args below meth c H locs cells slots Q (F0 m (pc + 3) ls (rest))) → W p l e R s m args below meth c H locs cells slots Q (F0 m pc ls (.int x :: rest)))
    (hst : xif S pc tgt L h f = some (.inl (pc', L', S', h'))) (k : xAt p l e R s m args below meth c Q D cA bs n0 z0 nL pc' L' S' h') : xAt p l e R s m args below meth c Q D cA bs n0 z0 nL pc L S h := by
  unfold xif at hst
  split at hst
  · split at hst
    · next hf =>
      obtain ⟨rfl, rfl, rfl, rfl⟩ := xgo_inj hst
      intro H locs ls hR hS hL hn hz
      exact row _ _ _ _ _ _ _ (fun _ => k H locs ls hR hS hL hn hz) (fun q => absurd (q.symm.trans hf) (by decide))
    · next hf =>
      obtain ⟨rfl, rfl, rfl, rfl⟩ := xgo_inj hst
      intro H locs ls hR hS hL hn hz
      exact row _ _ _ _ _ _ _ (fun q => absurd q hf) (fun _ => k H locs ls hR hS hL hn hz)
  · cases hst
theorem xs_cm {S : List Value} {pc : Nat} {L : xL} {h : xH} {tgt : Nat} {f : Int32 → Int32 → Bool} {pc' : Nat} {L' : xL} {S' : List Value} {h' : xH}
    (row : ∀ (H : Heap) (locs : List Loc) (cells slots : Nat) (ls : Array Slot) (x y : Int32) (rest : List Value), (f x y = true → W p l e R s m args below meth c H locs cells slots Q (F0 m tgt ls (rest))) → (f x y = false → W p l e R s m args below meth c H locs cells slots Q (F0 m (pc + 3) ls (rest))) → W p l e R s m args below meth c H locs cells slots Q (F0 m pc ls (.int y :: .int x :: rest)))
    (hst : xcm S pc tgt L h f = some (.inl (pc', L', S', h'))) (k : xAt p l e R s m args below meth c Q D cA bs n0 z0 nL pc' L' S' h') : xAt p l e R s m args below meth c Q D cA bs n0 z0 nL pc L S h := by
  unfold xcm at hst
  split at hst
  · split at hst
    · next hf =>
      obtain ⟨rfl, rfl, rfl, rfl⟩ := xgo_inj hst
      intro H locs ls hR hS hL hn hz
      exact row _ _ _ _ _ _ _ _ (fun _ => k H locs ls hR hS hL hn hz) (fun q => absurd (q.symm.trans hf) (by decide))
    · next hf =>
      obtain ⟨rfl, rfl, rfl, rfl⟩ := xgo_inj hst
      intro H locs ls hR hS hL hn hz
      exact row _ _ _ _ _ _ _ _ (fun q => absurd q hf) (fun _ => k H locs ls hR hS hL hn hz)
  · cases hst
theorem xs_ild {S : List Value} {pc : Nat} {L : xL} {h : xH} {a : Nat} {pc1 : Nat} {pc' : Nat} {L' : xL} {S' : List Value} {h' : xH}
    (row : ∀ (H : Heap) (locs : List Loc) (cells slots : Nat) (ls : Array Slot) (x : Int32) (rest : List Value), ls[a]? = some (.val (.int x)) → W p l e R s m args below meth c H locs cells slots Q (F0 m pc1 ls (.int x :: rest)) → W p l e R s m args below meth c H locs cells slots Q (F0 m pc ls (rest)))
    (hst : xild L a pc1 S h = some (.inl (pc', L', S', h'))) (k : xAt p l e R s m args below meth c Q D cA bs n0 z0 nL pc' L' S' h') : xAt p l e R s m args below meth c Q D cA bs n0 z0 nL pc L S h := by
  unfold xild at hst
  split at hst
  · next x hx =>
    obtain ⟨rfl, rfl, rfl, rfl⟩ := xgo_inj hst
    intro H locs ls hR hS hL hn hz
    exact row _ _ _ _ _ _ _ (hL.2.2.2 _ _ hx) (k H locs ls hR hS hL hn hz)
  · cases hst
theorem xs_ald {S : List Value} {pc : Nat} {L : xL} {h : xH} {a : Nat} {pc1 : Nat} {pc' : Nat} {L' : xL} {S' : List Value} {h' : xH}
    (row : ∀ (H : Heap) (locs : List Loc) (cells slots : Nat) (ls : Array Slot) (x : Nat) (rest : List Value), ls[a]? = some (.val (.ref x)) → W p l e R s m args below meth c H locs cells slots Q (F0 m pc1 ls (.ref x :: rest)) → W p l e R s m args below meth c H locs cells slots Q (F0 m pc ls (rest)))
    (hst : xald L a pc1 S h = some (.inl (pc', L', S', h'))) (k : xAt p l e R s m args below meth c Q D cA bs n0 z0 nL pc' L' S' h') : xAt p l e R s m args below meth c Q D cA bs n0 z0 nL pc L S h := by
  unfold xald at hst
  split at hst
  · next x hx =>
    obtain ⟨rfl, rfl, rfl, rfl⟩ := xgo_inj hst
    intro H locs ls hR hS hL hn hz
    exact row _ _ _ _ _ _ _ (hL.2.2.2 _ _ hx) (k H locs ls hR hS hL hn hz)
  · cases hst
theorem xs_lld {S : List Value} {pc : Nat} {L : xL} {h : xH} {a : Nat} {pc1 : Nat} {pc' : Nat} {L' : xL} {S' : List Value} {h' : xH}
    (row : ∀ (H : Heap) (locs : List Loc) (cells slots : Nat) (ls : Array Slot) (x : Int64) (rest : List Value), ls[a]? = some (.val (.long x)) → W p l e R s m args below meth c H locs cells slots Q (F0 m pc1 ls (.long x :: rest)) → W p l e R s m args below meth c H locs cells slots Q (F0 m pc ls (rest)))
    (hst : xlld L a pc1 S h = some (.inl (pc', L', S', h'))) (k : xAt p l e R s m args below meth c Q D cA bs n0 z0 nL pc' L' S' h') : xAt p l e R s m args below meth c Q D cA bs n0 z0 nL pc L S h := by
  unfold xlld at hst
  split at hst
  · next x hx =>
    obtain ⟨rfl, rfl, rfl, rfl⟩ := xgo_inj hst
    intro H locs ls hR hS hL hn hz
    exact row _ _ _ _ _ _ _ (hL.2.2.2 _ _ hx) (k H locs ls hR hS hL hn hz)
  · cases hst
/-- the held locals as a list -/
def xasc (bs : Nat) (L : xL) : List (Nat × Value) := (L.mapIdx (fun i o => (i, o))).filterMap (fun q => q.2.map (fun v => (q.1, xcv bs v)))
theorem xasc_mem {bs : Nat} {L : xL} {q : Nat × Value} : q ∈ xasc bs L ↔ ∃ v, L[q.1]? = some (some v) ∧ q.2 = xcv bs v := by
  unfold xasc
  rw [List.mem_filterMap]
  constructor
  · rintro ⟨⟨i, o⟩, hm, he⟩
    obtain ⟨j, hj⟩ := List.getElem?_of_mem hm
    rw [List.getElem?_mapIdx] at hj
    cases o with
    | none => simp at he
    | some v =>
      simp at he
      subst he
      cases hl : L[j]? with
      | none => rw [hl] at hj; simp at hj
      | some w =>
        rw [hl] at hj
        simp at hj
        obtain ⟨rfl, rfl⟩ := hj
        exact ⟨v, hl, rfl⟩
  · rintro ⟨v, hv, he⟩
    refine ⟨(q.1, some v), ?_, ?_⟩
    · apply List.mem_of_getElem? (i := q.1)
      rw [List.getElem?_mapIdx, hv]
      rfl
    · simp [← he]
theorem xlv_has {bs nL : Nat} {ls : Array Slot} {L : xL} (h : xlv bs ls nL L) : lv_has ls nL (xasc bs L) := by
  refine ⟨h.1, h.2.2.1, fun q hq => ?_⟩
  obtain ⟨v, hv, he⟩ := xasc_mem.mp hq
  rw [he]
  exact h.2.2.2 _ _ hv
theorem xst1_len (L : xL) (a : Nat) (v : Value) : (xst1 L a v).length = L.length := by
  unfold xst1
  split
  · simp
  · split
    · next w _ => cases hb : (w.category == 2) <;> simp
    · simp
theorem xst1_get {L : xL} {a : Nat} {v : Value} (j : Nat) (w : Value) (h : (xst1 L a v)[j]? = some (some w)) : (j = a ∧ w = v) ∨ (j ≠ a ∧ L[j]? = some (some w) ∧ (j + 1 = a → w.category ≠ 2)) := by
  unfold xst1 at h
  split at h
  · rw [List.getElem?_set] at h
    by_cases hj : 0 = j
    · left
      rw [if_pos hj] at h
      split at h
      · injection h with h; injection h with h; exact ⟨hj.symm, h.symm⟩
      · cases h
    · right
      rw [if_neg hj] at h
      exact ⟨fun q => hj q.symm, h, fun q => by omega⟩
  · next b =>
    split at h
    · next u hu =>
      cases hb : (u.category == 2) with
      | true =>
        rw [hb, cond_true, List.getElem?_set] at h
        by_cases hj : b + 1 = j
        · left
          rw [if_pos hj] at h
          split at h
          · injection h with h; injection h with h; exact ⟨hj.symm, h.symm⟩
          · cases h
        · right
          rw [if_neg hj, List.getElem?_set] at h
          by_cases hbj : b = j
          · rw [if_pos hbj] at h
            split at h <;> cases h
          · rw [if_neg hbj] at h
            exact ⟨fun q => hj q.symm, h, fun q => absurd (by omega) hbj⟩
      | false =>
        rw [hb, cond_false, List.getElem?_set] at h
        by_cases hj : b + 1 = j
        · left
          rw [if_pos hj] at h
          split at h
          · injection h with h; injection h with h; exact ⟨hj.symm, h.symm⟩
          · cases h
        · right
          rw [if_neg hj] at h
          refine ⟨fun q => hj q.symm, h, fun q => ?_⟩
          have e : j = b := by omega
          subst e
          rw [hu] at h
          injection h with h; injection h with h
          subst h
          intro q2
          rw [q2] at hb
          exact absurd hb (by decide)
    · next hno =>
      rw [List.getElem?_set] at h
      by_cases hj : b + 1 = j
      · left
        rw [if_pos hj] at h
        split at h
        · injection h with h; injection h with h; exact ⟨hj.symm, h.symm⟩
        · cases h
      · right
        rw [if_neg hj] at h
        refine ⟨fun q => hj q.symm, h, fun q => ?_⟩
        have e : j = b := by omega
        subst e
        exact absurd h (hno w)
theorem xlv_st1 {bs nL a : Nat} {ls ls' : Array Slot} {L : xL} {v : Value} (hL : xlv bs ls nL L) (h : lv_has ls' nL ((a, xcv bs v) :: (xasc bs L).filter (fun q => !(q.1 == a) && !(q.1 + 1 == a && q.2.category == 2)))) : xlv bs ls' nL (xst1 L a v) := by
  refine ⟨h.1, by rw [xst1_len]; exact hL.2.1, h.2.1, fun j w hj => ?_⟩
  rcases xst1_get j w hj with ⟨rfl, rfl⟩ | ⟨h1, h2, h3⟩
  · exact h.2.2 (j, _) List.mem_cons_self
  · refine h.2.2 (j, xcv bs w) (List.mem_cons_of_mem _ (List.mem_filter.mpr ⟨xasc_mem.mpr ⟨w, h2, rfl⟩, ?_⟩))
    by_cases h4 : j + 1 = a
    · have := h3 h4
      simp [h1, xcv_cat, this]
    · simp [h1, h4]
theorem xlv_st2 {bs nL a : Nat} {ls ls' : Array Slot} {L : xL} {v : Value} (hL : xlv bs ls nL L) (h : lv_has ls' nL ((a, xcv bs v) :: (xasc bs L).filter (fun q => !(q.1 == a) && (!(q.1 == a + 1) && !(q.1 + 1 == a && q.2.category == 2))))) : xlv bs ls' nL (xst2 L a v) := by
  refine ⟨h.1, by unfold xst2; rw [List.length_set, xst1_len]; exact hL.2.1, h.2.1, fun j w hj => ?_⟩
  unfold xst2 at hj
  rw [List.getElem?_set] at hj
  by_cases h5 : a + 1 = j
  · rw [if_pos h5] at hj
    split at hj <;> cases hj
  · rw [if_neg h5] at hj
    rcases xst1_get j w hj with ⟨rfl, rfl⟩ | ⟨h1, h2, h3⟩
    · exact h.2.2 (j, _) List.mem_cons_self
    · refine h.2.2 (j, xcv bs w) (List.mem_cons_of_mem _ (List.mem_filter.mpr ⟨xasc_mem.mpr ⟨w, h2, rfl⟩, ?_⟩))
      have h6 : ¬ j = a + 1 := fun q => h5 q.symm
      by_cases h4 : j + 1 = a
      · have := h3 h4
        simp [h1, h6, xcv_cat, this]
      · simp [h1, h6, h4]
theorem xs_ist {S : List Value} {pc : Nat} {L : xL} {h : xH} {a : Nat} {pc1 : Nat} {pc' : Nat} {L' : xL} {S' : List Value} {h' : xH}
    (row : ∀ (H : Heap) (locs : List Loc) (cells slots : Nat) (ls : Array Slot) (x : Int32) (rest : List Value) (lv : List (Nat × Value)), lv_has ls nL lv → a < nL → (∀ ls' : Array Slot, lv_has ls' nL ((a, .int x) :: lv.filter (fun q => !(q.1 == a) && !(q.1 + 1 == a && q.2.category == 2))) → W p l e R s m args below meth c H locs cells slots Q (F0 m pc1 ls' (rest))) → W p l e R s m args below meth c H locs cells slots Q (F0 m pc ls (.int x :: rest)))
    (hst : xist L a pc1 S h = some (.inl (pc', L', S', h'))) (k : xAt p l e R s m args below meth c Q D cA bs n0 z0 nL pc' L' S' h') : xAt p l e R s m args below meth c Q D cA bs n0 z0 nL pc L S h := by
  unfold xist at hst
  split at hst
  · split at hst
    · next hlt =>
      obtain ⟨rfl, rfl, rfl, rfl⟩ := xgo_inj hst
      intro H locs ls hR hS hL hn hz
      exact row _ _ _ _ _ _ _ (xasc bs L) (xlv_has hL) (by rw [← hL.2.1]; exact hlt) (fun ls1 h1 => k H locs ls1 hR hS (xlv_st1 hL h1) hn hz)
    · cases hst
  · cases hst
theorem xs_ast {S : List Value} {pc : Nat} {L : xL} {h : xH} {a : Nat} {pc1 : Nat} {pc' : Nat} {L' : xL} {S' : List Value} {h' : xH}
    (row : ∀ (H : Heap) (locs : List Loc) (cells slots : Nat) (ls : Array Slot) (x : Nat) (rest : List Value) (lv : List (Nat × Value)), lv_has ls nL lv → a < nL → (∀ ls' : Array Slot, lv_has ls' nL ((a, .ref x) :: lv.filter (fun q => !(q.1 == a) && !(q.1 + 1 == a && q.2.category == 2))) → W p l e R s m args below meth c H locs cells slots Q (F0 m pc1 ls' (rest))) → W p l e R s m args below meth c H locs cells slots Q (F0 m pc ls (.ref x :: rest)))
    (hst : xast L a pc1 S h = some (.inl (pc', L', S', h'))) (k : xAt p l e R s m args below meth c Q D cA bs n0 z0 nL pc' L' S' h') : xAt p l e R s m args below meth c Q D cA bs n0 z0 nL pc L S h := by
  unfold xast at hst
  split at hst
  · split at hst
    · next hlt =>
      obtain ⟨rfl, rfl, rfl, rfl⟩ := xgo_inj hst
      intro H locs ls hR hS hL hn hz
      exact row _ _ _ _ _ _ _ (xasc bs L) (xlv_has hL) (by rw [← hL.2.1]; exact hlt) (fun ls1 h1 => k H locs ls1 hR hS (xlv_st1 hL h1) hn hz)
    · cases hst
  · cases hst
theorem xs_lst {S : List Value} {pc : Nat} {L : xL} {h : xH} {a : Nat} {pc1 : Nat} {pc' : Nat} {L' : xL} {S' : List Value} {h' : xH}
    (row : ∀ (H : Heap) (locs : List Loc) (cells slots : Nat) (ls : Array Slot) (x : Int64) (rest : List Value) (lv : List (Nat × Value)), lv_has ls nL lv → a + 1 < nL → (∀ ls' : Array Slot, lv_has ls' nL ((a, .long x) :: lv.filter (fun q => !(q.1 == a) && (!(q.1 == a + 1) && !(q.1 + 1 == a && q.2.category == 2)))) → W p l e R s m args below meth c H locs cells slots Q (F0 m pc1 ls' (rest))) → W p l e R s m args below meth c H locs cells slots Q (F0 m pc ls (.long x :: rest)))
    (hst : xlst L a pc1 S h = some (.inl (pc', L', S', h'))) (k : xAt p l e R s m args below meth c Q D cA bs n0 z0 nL pc' L' S' h') : xAt p l e R s m args below meth c Q D cA bs n0 z0 nL pc L S h := by
  unfold xlst at hst
  split at hst
  · split at hst
    · next hlt =>
      obtain ⟨rfl, rfl, rfl, rfl⟩ := xgo_inj hst
      intro H locs ls hR hS hL hn hz
      exact row _ _ _ _ _ _ _ (xasc bs L) (xlv_has hL) (by rw [← hL.2.1]; exact hlt) (fun ls1 h1 => k H locs ls1 hR hS (xlv_st2 hL h1) hn hz)
    · cases hst
  · cases hst
theorem xs_inc {S : List Value} {pc : Nat} {L : xL} {h : xH} {a : Nat} {n : Int32} {pc1 : Nat} {pc' : Nat} {L' : xL} {S' : List Value} {h' : xH}
    (row : ∀ (H : Heap) (locs : List Loc) (cells slots : Nat) (ls : Array Slot) (x : Int32) (rest : List Value) (lv : List (Nat × Value)) (k : Nat), lv_has ls nL lv → lv[k]? = some (a, .int x) → a < nL → (∀ ls' : Array Slot, lv_has ls' nL ((a, .int (x + n)) :: lv.filter (fun q => !(q.1 == a) && !(q.1 + 1 == a && q.2.category == 2))) → W p l e R s m args below meth c H locs cells slots Q (F0 m pc1 ls' (rest))) → W p l e R s m args below meth c H locs cells slots Q (F0 m pc ls (rest)))
    (hst : xinc L a (.int n) pc1 S h = some (.inl (pc', L', S', h'))) (k : xAt p l e R s m args below meth c Q D cA bs n0 z0 nL pc' L' S' h') : xAt p l e R s m args below meth c Q D cA bs n0 z0 nL pc L S h := by
  unfold xinc at hst
  split at hst
  · next x n2 hx he =>
    injection he with he
    subst he
    obtain ⟨rfl, rfl, rfl, rfl⟩ := xgo_inj hst
    intro H locs ls hR hS hL hn hz
    obtain ⟨j, hj⟩ := List.getElem?_of_mem (xasc_mem.mpr ⟨.int x, hx, rfl⟩ : (a, Value.int x) ∈ xasc bs L)
    exact row _ _ _ _ _ _ _ (xasc bs L) j (xlv_has hL) hj (by rw [← hL.2.1]; exact (List.getElem?_eq_some_iff.mp hx).1) (fun ls1 h1 => k H locs ls1 hR hS (xlv_st1 hL h1) hn hz)
  · cases hst
/-- what is decided of each class: its words are the tables', its fields' types, its fields' names are apart -/
def xCls : Prop := ∀ (ci : Nat) (q : vw_C), vwCl[ci]? = some q → (∀ w ∈ u_ws q.1 q.2.1 q.2.2, xMem w) ∧ (∀ k, k < q.2.2 → parseFieldDescriptor (q.2.1 k).2.2.1 = some (xty ci k)) ∧ (∀ a, a < q.2.2 → ∀ b, b < q.2.2 → a ≠ b → (q.2.1 a).2.1 ≠ (q.2.1 b).2.1)
theorem xgF_spec {own : String} {idx ci k : Nat} (h : xgF own idx ci k = true) : ∃ q : vw_C, vwCl[ci]? = some q ∧ k < q.2.2 ∧ xMem (Cond.fieldLink own idx (q.2.1 k).1 (q.2.1 k).2.1 (q.2.1 k).2.2.1) := by
  unfold xgF at h
  split at h
  · next q hq =>
    rw [Bool.and_eq_true, decide_eq_true_eq, decide_eq_true_eq] at h
    exact ⟨q, hq, h.1, h.2⟩
  · cases h
theorem xRel.ofP {h : xH} {H1 : Heap} {locs : List Loc} (hP : va_P D vwCl (xwd bs cA h) H1) (hS : va_S (fun q => bs ≤ q) s.heap H1 locs) (hs0 : s.heap.size = bs + n0) (hn : n0 ≤ h.length) (hsz : H1.size ≤ s.heap.size + (h.length - n0)) : xRel D cA bs h H1 := by
  refine ⟨hP, ?_⟩
  have h1 := hS.1
  have h2 : bs + h.length ≤ H1.size := by
    cases hl : h.length with
    | zero => omega
    | succ n =>
      have hlt : n < h.length := by omega
      have := (hP n _ (xwd_at (List.getElem?_eq_getElem hlt))).lt
      show bs + (n + 1) ≤ H1.size
      have h3 : bs + n < H1.size := this
      omega
  omega
theorem xs_get {S : List Value} {pc : Nat} {L : xL} {h : xH} {ci k idx : Nat} {pc' : Nat} {L' : xL} {S' : List Value} {h' : xH} (X : xCtx p s m args c cc nL own D cA bs n0) (hC : xCls) (hg : xgF own idx ci k = true) (hd : decode cc pc = .ok (.getfield idx, 3))
    (hst : xget ci k pc L S h = some (.inl (pc', L', S', h'))) (kk : xAt p l e R s m args below meth c Q D cA bs n0 z0 nL pc' L' S' h') : xAt p l e R s m args below meth c Q D cA bs n0 z0 nL pc L S h := by
  unfold xget at hst
  split at hst
  · next i r =>
    split at hst
    · next c1 fs hi =>
      split at hst
      · next v hv =>
        split at hst
        · next hc =>
          subst hc
          obtain ⟨rfl, rfl, rfl, rfl⟩ := xgo_inj hst
          obtain ⟨hx, hb, hml, hown, hts, hK, hs0⟩ := X
          obtain ⟨q, hq, hk, hlink⟩ := xgF_spec hg
          intro H locs ls hR hS hL hn hz
          exact va_get hx hb (Ts := u_ws q.1 q.2.1 q.2.2) (fun w hw => hts w ((hC _ q hq).1 w hw)) (fun _ h9 => h9) hown hK hR.1 i (xwd_at hi) hq k hk (hts _ hlink) (fun _ h9 => h9) (v := xcv bs v) (by rw [List.getElem?_map, hv]; rfl) hd (kk H locs ls hR hS hL hn hz)
        · cases hst
      · cases hst
    · cases hst
  · cases hst
theorem xfit_ok {ty : FieldType} {v : Value} (bs : Nat) (h : xfit ty v = true) : narrow ty (xcv bs v) = xcv bs v ∧ fits ty (xcv bs v) = true := by
  unfold xfit at h
  split at h
  · exact ⟨rfl, rfl⟩
  · exact ⟨rfl, rfl⟩
  · next x =>
    rw [Bool.or_eq_true, beq_iff_eq, beq_iff_eq] at h
    rcases h with rfl | rfl
    · exact ⟨rfl, rfl⟩
    · exact ⟨rfl, rfl⟩
  · exact ⟨rfl, rfl⟩
  · exact ⟨rfl, rfl⟩
  · cases h
theorem xs_put {S : List Value} {pc : Nat} {L : xL} {h : xH} {ci k idx : Nat} {ini : Bool} {pc' : Nat} {L' : xL} {S' : List Value} {h' : xH} (X : xCtx p s m args c cc nL own D cA bs n0) (hC : xCls) (hini : ini = true → meth.name = "<init>") (hg : xgF own idx ci k = true) (hg2 : xgP own ini idx ci k = true) (hd : decode cc pc = .ok (.putfield idx, 3))
    (hst : xput (xty ci k) ci k pc L S h = some (.inl (pc', L', S', h'))) (kk : xAt p l e R s m args below meth c Q D cA bs n0 z0 nL pc' L' S' h') : xAt p l e R s m args below meth c Q D cA bs n0 z0 nL pc L S h := by
  unfold xput at hst
  split at hst
  · next v i r =>
    split at hst
    · next c1 fs hi =>
      split at hst
      · next hc =>
        obtain ⟨rfl, hl, hf⟩ := hc
        obtain ⟨rfl, rfl, rfl, rfl⟩ := xgo_inj hst
        obtain ⟨hx, hb, hml, hown, hts, hK, hs0⟩ := X
        obtain ⟨q, hq, hk, hlink⟩ := xgF_spec hg
        obtain ⟨f1, f2⟩ := xfit_ok bs hf
        obtain ⟨c1', c2', c3'⟩ := hC _ q hq
        intro H locs ls hR hS hL hn hz
        have e1 : (h.set i (Sum.inl (c1, fs.set k v))).length = h.length := List.length_set
        have e2 : xz (h.set i (Sum.inl (c1, fs.set k v))) = xz h := xz_set hi (by simp [xsz])
        have go : ∀ (H1 : Heap) (locs1 : List Loc), va_P D vwCl ((xwd bs cA h).set i (bs + i, .inr (c1, (fs.map (xcv bs)).set k (xcv bs v)))) H1 → va_S (fun q => bs ≤ q) s.heap H1 locs1 → W p l e R s m args below meth c H1 locs1 (h.length - n0) (xz h - z0) Q (F0 m (pc + 3) ls (r.map (xcv bs))) := by
          intro H1 locs1 hP1 hS1
          rw [← List.map_set] at hP1
          have hP2 : va_P D vwCl (xwd bs cA (h.set i (.inl (c1, fs.set k v)))) H1 := by rw [← xwd_set]; exact hP1
          refine W.size fun hsz => ?_
          have := kk H1 locs1 ls (xRel.ofP hP2 hS1 hs0 (by rw [e1]; exact hn) (by rw [e1]; exact hsz)) hS1 hL (by rw [e1]; exact hn) (by rw [e2]; exact hz)
          rw [e1, e2] at this
          exact this
        unfold xgP at hg2
        rw [hq] at hg2
        cases hfin : (q.2.1 k).2.2.2 with
        | false => exact va_put hx hb (Ts := u_ws q.1 q.2.1 q.2.2) (fun w hw => hts w (c1' w hw)) (fun _ h9 => h9) (xty c1) c2' c3' hown hK hR.1 (xwd_D bs cA h) hS i (xwd_at hi) hq k hk (hts _ hlink) (fun _ h9 => h9) hfin (c2' k hk) f1 f2 (by rw [List.length_map]; exact hl) hd (fun H1 locs1 hP1 _ hS1 => go H1 locs1 hP1 hS1)
        | true =>
          simp only [hfin, Bool.not_true, Bool.false_or, Bool.and_eq_true, decide_eq_true_eq] at hg2
          exact va_putF hx hb (Ts := u_ws q.1 q.2.1 q.2.2) (fun w hw => hts w (c1' w hw)) (fun _ h9 => h9) (xty c1) c2' c3' hown hK hR.1 (xwd_D bs cA h) hS i (xwd_at hi) hq k hk (hts _ hlink) (fun _ h9 => h9) hfin (hini hg2.1) hg2.2 (c2' k hk) f1 f2 (by rw [List.length_map]; exact hl) hd (fun H1 locs1 hP1 _ hS1 => go H1 locs1 hP1 hS1)
      · cases hst
    · cases hst
  · cases hst
theorem xs_aldI0 {S : List Value} {pc : Nat} {L : xL} {h : xH} {pc' : Nat} {L' : xL} {S' : List Value} {h' : xH} (X : xCtx p s m args c cc nL own D cA bs n0) (hd : decode cc pc = .ok (.iaload, 1))
    (hst : xaldI 0 pc L S h = some (.inl (pc', L', S', h'))) (kk : xAt p l e R s m args below meth c Q D cA bs n0 z0 nL pc' L' S' h') : xAt p l e R s m args below meth c Q D cA bs n0 z0 nL pc L S h := by
  unfold xaldI at hst
  split at hst
  · next j i r =>
    split at hst
    · next k n f hi =>
      split at hst
      · next hc =>
        obtain ⟨rfl, hin⟩ := hc
        obtain ⟨rfl, rfl, rfl, rfl⟩ := xgo_inj hst
        obtain ⟨hx, hb, hml, hown, hts, hK, hs0⟩ := X
        intro H locs ls hR hS hL hn hz
        exact va_iald hx hb hK hR.1 i 0 (xwd_at hi) rfl (xin_vp hin) hd (kk H locs ls hR hS hL hn hz)
      · cases hst
    · cases hst
  · cases hst
theorem xs_aldI2 {S : List Value} {pc : Nat} {L : xL} {h : xH} {pc' : Nat} {L' : xL} {S' : List Value} {h' : xH} (X : xCtx p s m args c cc nL own D cA bs n0) (hd : decode cc pc = .ok (.baload, 1))
    (hst : xaldI 2 pc L S h = some (.inl (pc', L', S', h'))) (kk : xAt p l e R s m args below meth c Q D cA bs n0 z0 nL pc' L' S' h') : xAt p l e R s m args below meth c Q D cA bs n0 z0 nL pc L S h := by
  unfold xaldI at hst
  split at hst
  · next j i r =>
    split at hst
    · next k n f hi =>
      split at hst
      · next hc =>
        obtain ⟨rfl, hin⟩ := hc
        obtain ⟨rfl, rfl, rfl, rfl⟩ := xgo_inj hst
        obtain ⟨hx, hb, hml, hown, hts, hK, hs0⟩ := X
        intro H locs ls hR hS hL hn hz
        exact va_zald hx hb hK hR.1 i 2 (xwd_at hi) rfl (xin_vp hin) hd (kk H locs ls hR hS hL hn hz)
      · cases hst
    · cases hst
  · cases hst
theorem xs_aldL {S : List Value} {pc : Nat} {L : xL} {h : xH} {pc' : Nat} {L' : xL} {S' : List Value} {h' : xH} (X : xCtx p s m args c cc nL own D cA bs n0) (hd : decode cc pc = .ok (.laload, 1))
    (hst : xaldL pc L S h = some (.inl (pc', L', S', h'))) (kk : xAt p l e R s m args below meth c Q D cA bs n0 z0 nL pc' L' S' h') : xAt p l e R s m args below meth c Q D cA bs n0 z0 nL pc L S h := by
  unfold xaldL at hst
  split at hst
  · next j i r =>
    split at hst
    · next k n f hi =>
      split at hst
      · next hc =>
        obtain ⟨rfl, hin⟩ := hc
        obtain ⟨rfl, rfl, rfl, rfl⟩ := xgo_inj hst
        obtain ⟨hx, hb, hml, hown, hts, hK, hs0⟩ := X
        intro H locs ls hR hS hL hn hz
        exact va_lald hx hb hK hR.1 i 1 (xwd_at hi) rfl (xin_vp hin) hd (kk H locs ls hR hS hL hn hz)
      · cases hst
    · cases hst
  · cases hst
theorem xcv_rf (bs : Nat) (o : Option Nat) : xcv bs (va_rf o) = va_rf (o.map (fun i => bs + i)) := by cases o <;> rfl
theorem va_aldG {H : Heap} {locs : List Loc} {cells slots : Nat} {pc : Nat} {ls : Array Slot} {rest : List Value} {cl : List vw_C} {a : Nat} {tys : List (ClassId × FieldType)} {ws : va_W} (hexec : p.tables.exec = Jvm.exec) (hb : c.code = cc) (hK : va_K D cl tys s) (hP : va_P D cl ws H) (q0 t0 : Nat) {cB : ClassId} {t : FieldType} {n : Nat} {f : Nat → Option Nat} (ha : ws[q0]? = some (a, .inl (cB, n, .inr (.inr (.inr (.inr f)))))) (ht : tys[t0]? = some (cB, .array t)) {i : Int32} (hin : vp_in i n) (hdg : decode cc pc = .ok (.aaload, 1))
    (kk : W p l e R s m args below meth c H locs cells slots Q (F0 m (pc + 1) ls (va_rf (f i.toNatClampNeg) :: rest))) : W p l e R s m args below meth c H locs cells slots Q (F0 m pc ls (.int i :: .ref a :: rest)) := by
  have hlt : i.toNatClampNeg < n := Nat.not_le.mp fun q => hin (Or.inr q)
  exact W.aald (v := va_rf (f i.toNatClampNeg)) (ty := .array t) hexec hb (hP q0 _ ha) ((hK.2 t0 _ ht).1 n (fun j => va_rf (f j))) rfl (fun q => by cases q) (by show ¬ (i < 0 ∨ (arrV _ _ _).slots.size ≤ _); rw [arrV_size]; exact hin) (by show (arrV _ _ _).slots[_]? = _; rw [arrV_read _ _ hlt]) rfl rfl hdg kk
theorem xs_aldA {S : List Value} {pc : Nat} {L : xL} {h : xH} {pc' : Nat} {L' : xL} {S' : List Value} {h' : xH} (X : xCtx p s m args c cc nL own D cA bs n0) (hd : decode cc pc = .ok (.aaload, 1))
    (hst : xaldA pc L S h = some (.inl (pc', L', S', h'))) (kk : xAt p l e R s m args below meth c Q D cA bs n0 z0 nL pc' L' S' h') : xAt p l e R s m args below meth c Q D cA bs n0 z0 nL pc L S h := by
  unfold xaldA at hst
  split at hst
  · next j i r =>
    split at hst
    · next k n f hi =>
      split at hst
      · next hc =>
        obtain ⟨hk, hin⟩ := hc
        obtain ⟨rfl, rfl, rfl, rfl⟩ := xgo_inj hst
        obtain ⟨hx, hb, hml, hown, hts, hK, hs0⟩ := X
        intro H locs ls hR hS hL hn hz
        have K := kk H locs ls hR hS hL hn hz
        rw [List.map_cons, xcv_rf] at K
        rcases hk with rfl | rfl
        · exact va_aldq hx hb hK hR.1 i 3 (xwd_at hi) rfl (xin_vp hin) hd K
        · exact va_aldG hx hb hK hR.1 i 4 (xwd_at hi) rfl (xin_vp hin) hd K
      · cases hst
    · cases hst
  · cases hst
theorem xs_len {S : List Value} {pc : Nat} {L : xL} {h : xH} {pc' : Nat} {L' : xL} {S' : List Value} {h' : xH} (X : xCtx p s m args c cc nL own D cA bs n0) (hd : decode cc pc = .ok (.arraylength, 1))
    (hst : xlen pc L S h = some (.inl (pc', L', S', h'))) (kk : xAt p l e R s m args below meth c Q D cA bs n0 z0 nL pc' L' S' h') : xAt p l e R s m args below meth c Q D cA bs n0 z0 nL pc L S h := by
  unfold xlen at hst
  split at hst
  · next i r =>
    split at hst
    · next k n f hi =>
      split at hst
      · next hk =>
        obtain ⟨rfl, rfl, rfl, rfl⟩ := xgo_inj hst
        obtain ⟨hx, hb, hml, hown, hts, hK, hs0⟩ := X
        intro H locs ls hR hS hL hn hz
        have hty : ∃ ty, (xtys cA)[k]? = some (cA k, ty) := by
          match k, hk with
          | 0, _ => exact ⟨_, rfl⟩
          | 1, _ => exact ⟨_, rfl⟩
          | 2, _ => exact ⟨_, rfl⟩
          | 3, _ => exact ⟨_, rfl⟩
          | 4, _ => exact ⟨_, rfl⟩
        obtain ⟨ty, hty⟩ := hty
        have hx1 : (xca bs (n, f)).1 = n := by
          unfold xca
          split
          · next h9 => cases h9; rfl
          · rfl
        exact va_alen hx hb hK hR.1 i k (x := xca bs (n, f)) (xwd_at hi) hty (by rw [hx1]) hd (kk H locs ls hR hS hL hn hz)
      · cases hst
    · cases hst
  · cases hst
/-- behind a row that changes one object and leaves its size -/
theorem xs_set {h : xH} {i : Nat} {o o' : xO} {H1 : Heap} {locs1 : List Loc} {ls : Array Slot} {pc : Nat} {L : xL} {S : List Value} (hs0 : s.heap.size = bs + n0) (hi : h[i]? = some o) (ho : xsz o' = xsz o) (hn : n0 ≤ h.length) (hz : z0 ≤ xz h) (hL : xlv bs ls nL L) (kk : xAt p l e R s m args below meth c Q D cA bs n0 z0 nL pc L S (h.set i o')) (hP : va_P D vwCl ((xwd bs cA h).set i (bs + i, xco bs cA o')) H1) (hS : va_S (fun q => bs ≤ q) s.heap H1 locs1) : W p l e R s m args below meth c H1 locs1 (h.length - n0) (xz h - z0) Q (F0 m pc ls (S.map (xcv bs))) := by
  have e1 : (h.set i o').length = h.length := List.length_set
  have e2 : xz (h.set i o') = xz h := xz_set hi ho
  rw [xwd_set] at hP
  refine W.size fun hsz => ?_
  have := kk H1 locs1 ls (xRel.ofP hP hS hs0 (by rw [e1]; exact hn) (by rw [e1]; exact hsz)) hS hL (by rw [e1]; exact hn) (by rw [e2]; exact hz)
  rw [e1, e2] at this
  exact this
theorem xs_astI0 {S : List Value} {pc : Nat} {L : xL} {h : xH} {pc' : Nat} {L' : xL} {S' : List Value} {h' : xH} (X : xCtx p s m args c cc nL own D cA bs n0) (hd : decode cc pc = .ok (.iastore, 1))
    (hst : xastI 0 pc L S h = some (.inl (pc', L', S', h'))) (kk : xAt p l e R s m args below meth c Q D cA bs n0 z0 nL pc' L' S' h') : xAt p l e R s m args below meth c Q D cA bs n0 z0 nL pc L S h := by
  unfold xastI at hst
  split at hst
  · next x j i r =>
    split at hst
    · next k n f hi =>
      split at hst
      · next hc =>
        obtain ⟨rfl, hin, hb2⟩ := hc
        obtain ⟨rfl, rfl, rfl, rfl⟩ := xgo_inj hst
        obtain ⟨hx, hb, hml, hown, hts, hK, hs0⟩ := X
        intro H locs ls hR hS hL hn hz
        exact va_iast hx hb hK hR.1 (xwd_D bs cA h) hS i 0 (xwd_at hi) rfl (xin_vp hin) hd (fun H1 locs1 hP1 _ hS1 => xs_set hs0 hi (o' := .inr (0, n, .inl (upd f j.toNatClampNeg x))) rfl hn hz hL kk hP1 hS1)
      · cases hst
    · cases hst
  · cases hst
theorem xs_astI2 {S : List Value} {pc : Nat} {L : xL} {h : xH} {pc' : Nat} {L' : xL} {S' : List Value} {h' : xH} (X : xCtx p s m args c cc nL own D cA bs n0) (hd : decode cc pc = .ok (.bastore, 1))
    (hst : xastI 2 pc L S h = some (.inl (pc', L', S', h'))) (kk : xAt p l e R s m args below meth c Q D cA bs n0 z0 nL pc' L' S' h') : xAt p l e R s m args below meth c Q D cA bs n0 z0 nL pc L S h := by
  unfold xastI at hst
  split at hst
  · next x j i r =>
    split at hst
    · next k n f hi =>
      split at hst
      · next hc =>
        obtain ⟨rfl, hin, hb2⟩ := hc
        obtain ⟨rfl, rfl, rfl, rfl⟩ := xgo_inj hst
        obtain ⟨hx, hb, hml, hown, hts, hK, hs0⟩ := X
        intro H locs ls hR hS hL hn hz
        have hnar : vp_nar .boolean x = x := by rcases hb2 rfl with rfl | rfl <;> rfl
        exact va_zast hx hb hK hR.1 (xwd_D bs cA h) hS i 2 (xwd_at hi) rfl (xin_vp hin) hd (fun H1 locs1 hP1 _ hS1 => xs_set hs0 hi (o' := .inr (2, n, .inl (upd f j.toNatClampNeg x))) rfl hn hz hL kk (by rw [hnar] at hP1; exact hP1) hS1)
      · cases hst
    · cases hst
  · cases hst
theorem xs_astL {S : List Value} {pc : Nat} {L : xL} {h : xH} {pc' : Nat} {L' : xL} {S' : List Value} {h' : xH} (X : xCtx p s m args c cc nL own D cA bs n0) (hd : decode cc pc = .ok (.lastore, 1))
    (hst : xastL pc L S h = some (.inl (pc', L', S', h'))) (kk : xAt p l e R s m args below meth c Q D cA bs n0 z0 nL pc' L' S' h') : xAt p l e R s m args below meth c Q D cA bs n0 z0 nL pc L S h := by
  unfold xastL at hst
  split at hst
  · next x j i r =>
    split at hst
    · next k n f hi =>
      split at hst
      · next hc =>
        obtain ⟨rfl, hin⟩ := hc
        obtain ⟨rfl, rfl, rfl, rfl⟩ := xgo_inj hst
        obtain ⟨hx, hb, hml, hown, hts, hK, hs0⟩ := X
        intro H locs ls hR hS hL hn hz
        exact va_last hx hb hK hR.1 (xwd_D bs cA h) hS i 1 (xwd_at hi) rfl (xin_vp hin) hd (fun H1 locs1 hP1 _ hS1 => xs_set hs0 hi (o' := .inr (1, n, .inr (.inl (vp_updL f j.toNatClampNeg x)))) rfl hn hz hL kk hP1 hS1)
      · cases hst
    · cases hst
  · cases hst
theorem xs_astA {S : List Value} {pc : Nat} {L : xL} {h : xH} {ci : Nat} {pc' : Nat} {L' : xL} {S' : List Value} {h' : xH} (X : xCtx p s m args c cc nL own D cA bs n0) (hci : ci = 10) (hd : decode cc pc = .ok (.aastore, 1))
    (hst : xastA ci pc L S h = some (.inl (pc', L', S', h'))) (kk : xAt p l e R s m args below meth c Q D cA bs n0 z0 nL pc' L' S' h') : xAt p l e R s m args below meth c Q D cA bs n0 z0 nL pc L S h := by
  unfold xastA at hst
  split at hst
  · next v j i r =>
    split at hst
    · next k n f c1 fs hi hv =>
      split at hst
      · next hc =>
        obtain ⟨rfl, rfl, hin⟩ := hc
        subst hci
        obtain ⟨rfl, rfl, rfl, rfl⟩ := xgo_inj hst
        obtain ⟨hx, hb, hml, hown, hts, hK, hs0⟩ := X
        intro H locs ls hR hS hL hn hz
        refine va_astq hx hb hK hR.1 (xwd_D bs cA h) hS i 3 v 10 (r := (RX10, TX10, 3)) (xwd_at hi) rfl (xwd_at hv) rfl (xin_vp hin) hd (fun H1 locs1 hP1 _ hS1 => xs_set hs0 hi (o' := .inr (3, n, .inr (.inr (.inr (.inr (va_up f j.toNatClampNeg (some v))))))) rfl hn hz hL kk ?_ hS1)
        have e9 : (fun q => (va_up f j.toNatClampNeg (some v) q).map (fun i => bs + i)) = va_up (fun q => (f q).map (fun i => bs + i)) j.toNatClampNeg (some (bs + v)) := by
          funext q
          unfold va_up
          split <;> rfl
        show va_P D vwCl ((xwd bs cA h).set i (bs + i, .inl (cA 3, n, .inr (.inr (.inr (.inr (fun q => (va_up f j.toNatClampNeg (some v) q).map (fun i => bs + i)))))))) H1
        rw [e9]
        exact hP1
      · cases hst
    · cases hst
  · cases hst
theorem xs_cpy {S : List Value} {pc : Nat} {L : xL} {h : xH} {idx : Nat} {pc' : Nat} {L' : xL} {S' : List Value} {h' : xH} (X : xCtx p s m args c cc nL own D cA bs n0) (hR1 : 1 ≤ R.frames) (hR2 : 100 ≤ R.locals) (hg : xgS own idx = true) (hd : decode cc pc = .ok (.invokestatic idx, 3))
    (hst : xcpy pc L S h = some (.inl (pc', L', S', h'))) (kk : xAt p l e R s m args below meth c Q D cA bs n0 z0 nL pc' L' S' h') : xAt p l e R s m args below meth c Q D cA bs n0 z0 nL pc L S h := by
  unfold xcpy at hst
  split at hst
  · next n dp j sp i r =>
    split at hst
    · next n1 f n2 g hi hj =>
      split at hst
      · next hc =>
        obtain ⟨⟨h1, h2⟩, h3, h4, h5, h6⟩ := hc
        obtain ⟨rfl, rfl, rfl, rfl⟩ := xgo_inj hst
        obtain ⟨hx, hb, hml, hown, hts, hK, hs0⟩ := X
        unfold xgS at hg
        simp only [Bool.and_eq_true, decide_eq_true_eq] at hg
        obtain ⟨⟨⟨g1, g2⟩, g3⟩, g4⟩ := hg
        intro H locs ls hR hS hL hn hz
        exact va_copyi hx hb (hml.trans hL.1.symm) hown (hts _ g1) (hts _ g2) (hts _ g3) (hts _ g4) hK hR.1 (xwd_D bs cA h) hS i j 0 0 (xwd_at hi) (xwd_at hj) rfl rfl rfl h1 h2 h3 h4 h5 (fun _ _ => rfl) hR1 (by
          have e8 : ((r.map (xcv bs)).map fun v => v.category) = r.map fun v => v.category := by
            rw [List.map_map]
            apply List.map_congr_left
            intro v _
            exact xcv_cat bs v
          rw [e8]
          have e9 : nativeFrameWords "java/lang/System" "arraycopy" 5 + 11 ≤ 92 := by decide +kernel
          omega) hd (fun H1 locs1 hP1 _ hS1 => xs_set hs0 hj (o' := .inr (0, n2, .inl (va_cpy f g sp.toNatClampNeg dp.toNatClampNeg n.toNatClampNeg))) rfl hn hz hL kk hP1 hS1)
      · cases hst
    · cases hst
  · cases hst
theorem xnew_q {h : xH} {q : Nat} {e1 : va_E} {H1 : Heap} (hP : va_P D vwCl (xwd bs cA h ++ [(q, e1)]) H1) (hD : va_D (fun q => bs ≤ q) (xwd bs cA h ++ [(q, e1)])) (hsz : H1.size ≤ bs + h.length + 1) : q = bs + h.length := by
  have hlen : (xwd bs cA h).length = h.length := by unfold xwd; simp
  have hq : (xwd bs cA h ++ [(q, e1)])[h.length]? = some (q, e1) := by
    rw [List.getElem?_append_right (by omega), hlen]
    simp
  have h1 := (hP _ _ hq).lt
  have h2 := hD.2 _ _ hq
  have h3 : q < H1.size := h1
  have h4 : bs ≤ q := h2
  by_cases h5 : q < bs + h.length
  · have h6 : q - bs < h.length := by omega
    have h7 : (xwd bs cA h ++ [(q, e1)])[q - bs]? = some (bs + (q - bs), xco bs cA (h[q - bs]'h6)) := by
      rw [List.getElem?_append_left (by omega)]
      exact xwd_at (List.getElem?_eq_getElem h6)
    have h8 := hD.1 _ _ _ _ h7 hq (by show bs + (q - bs) = q; omega)
    omega
  · omega
/-- behind a row that makes one object -/
theorem xs_push {h : xH} {o : xO} {q : Nat} {H1 : Heap} {locs1 : List Loc} {ls : Array Slot} {pc : Nat} {L : xL} {S : List Value} (hs0 : s.heap.size = bs + n0) (hn : n0 ≤ h.length) (hz : z0 ≤ xz h) (hL : xlv bs ls nL L) (kk : xAt p l e R s m args below meth c Q D cA bs n0 z0 nL pc L (.ref h.length :: S) (h ++ [o])) (hP : va_P D vwCl (xwd bs cA h ++ [(q, xco bs cA o)]) H1) (hD : va_D (fun q => bs ≤ q) (xwd bs cA h ++ [(q, xco bs cA o)])) (hS : va_S (fun q => bs ≤ q) s.heap H1 locs1) : W p l e R s m args below meth c H1 locs1 (h.length - n0 + 1) (xz h - z0 + xsz o) Q (F0 m pc ls (.ref q :: S.map (xcv bs))) := by
  have e1 : (h ++ [o]).length = h.length + 1 := by simp
  have e2 : xz (h ++ [o]) = xz h + xsz o := xz_push h o
  refine W.size fun hsz => ?_
  have hq : q = bs + h.length := xnew_q hP hD (by omega)
  subst hq
  rw [← xwd_push] at hP
  have := kk H1 locs1 ls (xRel.ofP hP hS hs0 (by rw [e1]; omega) (by rw [e1]; omega)) hS hL (by rw [e1]; omega) (by rw [e2]; omega)
  rw [e1, e2, show h.length + 1 - n0 = h.length - n0 + 1 by omega, show xz h + xsz o - z0 = xz h - z0 + xsz o by omega] at this
  exact this
theorem xs_new {S : List Value} {pc : Nat} {L : xL} {h : xH} {ci N idx : Nat} {C : String} (X : xCtx p s m args c cc nL own D cA bs n0) (hC : xCls) {q : vw_C} (hq : vwCl[ci]? = some q) (hN : q.2.2 = N) (hC0 : q.1 = C) (g1 : xMem (Cond.classLink own idx C)) (g2 : xMem (Cond.instantiable C N)) (g3 : xMem (Cond.initialized C)) (hz0 : ∀ j, j < N → defaultValue (xty ci j) = xzero (xty ci j)) (hd : decode cc pc = .ok (.new idx, 3))
    (hroom : h.length + 1 - n0 ≤ R.cells ∧ xz h + N - z0 ≤ R.slots) (kk : xAt p l e R s m args below meth c Q D cA bs n0 z0 nL (pc + 3) L (.ref h.length :: S) (h ++ [.inl (ci, (List.range N).map (fun k => xzero (xty ci k)))])) : xAt p l e R s m args below meth c Q D cA bs n0 z0 nL pc L S h := by
  subst hN
  subst hC0
  obtain ⟨hx, hb, hml, hown, hts, hK, hs0⟩ := X
  obtain ⟨c1, c2, c3⟩ := hC _ q hq
  intro H locs ls hR hS hL hn hz
  refine va_new hx hb (Ts := u_ws q.1 q.2.1 q.2.2) (fun w hw => hts w (c1 w hw)) (fun _ h9 => h9) (xty ci) c2 hown (hts _ g1) (hts _ g2) (hts _ g3) hK hR.1 (xwd_D bs cA h) hS (fun q9 h9 => by show bs ≤ q9; omega) hq (fs := ((List.range q.2.2).map (fun k => xzero (xty ci k))).map (xcv bs)) (fun j hj => ?_) (by omega) (by omega) hd (fun q1 H1 hP1 hD1 hS1 => ?_)
  · rw [hz0 j hj]
    unfold vp_V
    rw [List.getD_eq_getElem?_getD, List.getElem?_map, List.getElem?_map, List.getElem?_range hj]
    show _ = xcv bs (xzero (xty ci j))
    cases xty ci j <;> rfl
  · have := xs_push (o := .inl (ci, (List.range q.2.2).map (fun k => xzero (xty ci k)))) hs0 hn hz hL kk hP1 hD1 hS1
    rw [show xsz (.inl (ci, (List.range q.2.2).map (fun k => xzero (xty ci k)))) = q.2.2 by simp [xsz]] at this
    exact this
theorem xcls_prim {ty : FieldType} {cA1 cA2 : ClassId} (h1 : va_RA s cA1 ty) (h2 : va_RA s cA2 ty) : cA1 = cA2 := by
  cases ty with
  | object C =>
    obtain ⟨_, _, _, _, _, a⟩ := h1
    obtain ⟨_, _, _, _, _, b⟩ := h2
    exact Option.some.inj (a.symm.trans b)
  | _ => exact Option.some.inj (h1.symm.trans h2)
theorem xs_newP {S : List Value} {pc : Nat} {L : xL} {h : xH} {kd : Nat} {z : vp_A} {at1 : ArrayType} {ty : FieldType} {pc' : Nat} {L' : xL} {S' : List Value} {h' : xH} (X : xCtx p s m args c cc nL own D cA bs n0) (hat : newarray.typeOf at1 = ty) (hkd : (xtys cA)[kd]? = some (cA kd, ty)) (hw : xMem (Cond.arrayClass ty)) (hcb : componentBytes ty ≤ 8) (hza : ∀ (n : Nat) (cB : ClassId), vp_cell cB (xca bs (n, z.2)) = arrV cB n (fun _ => defaultValue ty)) (hd : decode cc pc = .ok (.newarray at1, 2))
    (hst : xnewA kd (pc + 2) z L S h = some (.inl (pc', L', S', h'))) (hroom : h'.length - n0 ≤ R.cells ∧ xz h' - z0 ≤ R.slots) (kk : xAt p l e R s m args below meth c Q D cA bs n0 z0 nL pc' L' S' h') : xAt p l e R s m args below meth c Q D cA bs n0 z0 nL pc L S h := by
  unfold xnewA at hst
  split at hst
  · next n r =>
    split at hst
    · next hc =>
      obtain ⟨h1, h2⟩ := hc
      obtain ⟨rfl, rfl, rfl, rfl⟩ := xgo_inj hst
      obtain ⟨hx, hb, hml, hown, hts, hK, hs0⟩ := X
      have e2 := xz_push h (.inr (kd, n.toNatClampNeg, z.2))
      have e3 : xsz (.inr (kd, n.toNatClampNeg, z.2)) = n.toNatClampNeg := rfl
      rw [List.length_append, List.length_singleton, e2, e3] at hroom
      intro H locs ls hR hS hL hn hz
      subst hat
      refine va_newa hx hb (hts _ hw) rfl hK hR.1 (xwd_D bs cA h) hS (fun q9 h9 => by show bs ≤ q9; omega) (hza n.toNatClampNeg) h1 rfl (Nat.le_trans (Nat.mul_le_mul h2 hcb) (by decide)) (by omega) (by omega) hd (fun q1 cB H1 hK1 hP1 hD1 hS1 => ?_)
      have hkl : kd < (xtys cA).length := (List.getElem?_eq_some_iff.mp hkd).1
      have hcc : cB = cA kd := xcls_prim (hK1.2 5 (cB, newarray.typeOf at1) rfl).2 (hK.2 _ _ hkd).2
      subst hcc
      exact xs_push (o := .inr (kd, n.toNatClampNeg, z.2)) hs0 hn hz hL kk hP1 hD1 hS1
    · cases hst
  · cases hst
theorem xs_newQ {S : List Value} {pc : Nat} {L : xL} {h : xH} {idx : Nat} {pc' : Nat} {L' : xL} {S' : List Value} {h' : xH} (X : xCtx p s m args c cc nL own D cA bs n0) (hg : xMem (Cond.classLink own idx RX10)) (ho : va_AO RX10 s) (hd : decode cc pc = .ok (.anewarray idx, 3))
    (hst : xnewA 3 (pc + 3) (0, .inr (.inr (.inr (.inr (fun _ => none))))) L S h = some (.inl (pc', L', S', h'))) (hroom : h'.length - n0 ≤ R.cells ∧ xz h' - z0 ≤ R.slots) (kk : xAt p l e R s m args below meth c Q D cA bs n0 z0 nL pc' L' S' h') : xAt p l e R s m args below meth c Q D cA bs n0 z0 nL pc L S h := by
  unfold xnewA at hst
  split at hst
  · next n r =>
    split at hst
    · next hc =>
      obtain ⟨h1, h2⟩ := hc
      obtain ⟨rfl, rfl, rfl, rfl⟩ := xgo_inj hst
      obtain ⟨hx, hb, hml, hown, hts, hK, hs0⟩ := X
      have e2 := xz_push h (.inr (3, n.toNatClampNeg, .inr (.inr (.inr (.inr (fun _ => none))))))
      have e3 : xsz (.inr (3, n.toNatClampNeg, .inr (.inr (.inr (.inr (fun _ => none)))))) = n.toNatClampNeg := rfl
      rw [List.length_append, List.length_singleton, e2, e3] at hroom
      intro H locs ls hR hS hL hn hz
      refine va_newq hx hb hown (hts _ hg) ho hK hR.1 (xwd_D bs cA h) hS (fun q9 h9 => by show bs ≤ q9; omega) h1 rfl (by omega) (by omega) (by omega) hd (fun q1 cB H1 hK1 hP1 hD1 hS1 => ?_)
      have hcc : cB = cA 3 := xcls_prim (hK1.2 5 (cB, .object RX10) rfl).2 (hK.2 3 _ rfl).2
      subst hcc
      exact xs_push (o := .inr (3, n.toNatClampNeg, .inr (.inr (.inr (.inr (fun _ => none)))))) hs0 hn hz hL kk hP1 hD1 hS1
    · cases hst
  · cases hst
theorem vr_outer (c : ClassId) (N h0 : Nat) : ∀ i : Nat, Jvm.Free.Multi.outerC c N h0 i = arrV c N (fun j => va_rf (if j < i then some (h0 + 1 + j) else none))
  | 0 => by
    show ({ cls := c, slots := Array.replicate N .null, vm := .none } : Cell) = _
    rw [arrV_new]
    refine congrArg (arrV c N) (funext fun j => ?_)
    simp [va_rf]
  | i + 1 => by
    show (Jvm.Free.Multi.outerC c N h0 i).setSlot i (.ref (h0 + 1 + i)) = _
    rw [vr_outer c N h0 i, arrV_store]
    refine congrArg (arrV c N) (funext fun j => ?_)
    by_cases e : j = i
    · subst e
      simp [updV, va_rf]
    · by_cases h : j < i
      · simp [updV, e, h, Nat.lt_succ_of_lt h]
      · simp [updV, e, h, show ¬ j < i + 1 by omega]
variable {p : Program} {l : Launch} {e : Env} {R : Room} {s : State} {m : MethodId} {args : Array Value} {below : List Frame} {meth : Method} {c : Code} {H : Heap} {locs : List Loc} {cells slots : Nat} {Q : State → Prop}
variable {cc : ByteArray} {pc : Nat} {ls : Array Slot} {rest : List Value} {D : va_G} {cl : List vw_C} {A : Nat → Prop} {a : Nat} {tys : List (ClassId × FieldType)} {ws : va_W} {H0 : Heap}
theorem xrep_get {α : Type} (h : List α) (o1 o2 : α) (n i : Nat) (o : α) (hi : (h ++ [o1] ++ List.replicate n o2)[i]? = some o) : (i < h.length ∧ h[i]? = some o) ∨ (i = h.length ∧ o = o1) ∨ (∃ j, j < n ∧ i = h.length + 1 + j ∧ o = o2) := by
  by_cases h1 : i < h.length
  · left
    rw [List.append_assoc, List.getElem?_append_left h1] at hi
    exact ⟨h1, hi⟩
  · by_cases h2 : i = h.length
    · right; left
      subst h2
      rw [List.append_assoc, List.getElem?_append_right (Nat.le_refl _)] at hi
      simp at hi
      exact ⟨rfl, hi.symm⟩
    · right; right
      have hl : (h ++ [o1]).length = h.length + 1 := by simp
      rw [List.getElem?_append_right (by rw [hl]; omega), hl] at hi
      have hlt : i - (h.length + 1) < (List.replicate n o2).length := (List.getElem?_eq_some_iff.mp hi).1
      rw [List.length_replicate] at hlt
      rw [List.getElem?_replicate, if_pos hlt] at hi
      exact ⟨i - (h.length + 1), hlt, by omega, (Option.some.inj hi).symm⟩
theorem xz_rep (h : xH) (n : Nat) (o : xO) : xz (h ++ List.replicate n o) = xz h + n * xsz o := by
  unfold xz
  simp
theorem xs_newM {S : List Value} {pc : Nat} {L : xL} {h : xH} {idx : Nat} {pc' : Nat} {L' : xL} {S' : List Value} {h' : xH} (X : xCtx p s m args c cc nL own D cA bs n0) (hg : xMem (Cond.classLink own idx ("[" ++ (FieldType.array .int).toString))) (ho : (Cond.arrayOver (.array .int)).before args s = true) (hac : xMem (Cond.arrayClass .int)) (hd : decode cc pc = .ok (.multianewarray idx 2, 4))
    (hst : xnewM (pc + 4) L S h = some (.inl (pc', L', S', h'))) (hroom : h'.length - n0 ≤ R.cells ∧ xz h' - z0 ≤ R.slots) (kk : xAt p l e R s m args below meth c Q D cA bs n0 z0 nL pc' L' S' h') : xAt p l e R s m args below meth c Q D cA bs n0 z0 nL pc L S h := by
  unfold xnewM at hst
  split at hst
  · next k n r =>
    split at hst
    · next hc =>
      obtain ⟨h1, h2, h3, h4⟩ := hc
      obtain ⟨rfl, rfl, rfl, rfl⟩ := xgo_inj hst
      obtain ⟨hx, hb, hml, hown, hts, hK, hs0⟩ := X
      have eL : (h ++ [(.inr (4, n.toNatClampNeg, .inr (.inr (.inr (.inr (fun i => if i < n.toNatClampNeg then some (h.length + 1 + i) else none))))) : xO)] ++ (List.replicate n.toNatClampNeg (.inr (0, k.toNatClampNeg, .inl (fun _ => 0))) : xH)).length = h.length + 1 + n.toNatClampNeg := by simp; omega
      have eZ : xz (h ++ [(.inr (4, n.toNatClampNeg, .inr (.inr (.inr (.inr (fun i => if i < n.toNatClampNeg then some (h.length + 1 + i) else none))))) : xO)] ++ (List.replicate n.toNatClampNeg (.inr (0, k.toNatClampNeg, .inl (fun _ => 0))) : xH)) = xz h + n.toNatClampNeg + n.toNatClampNeg * k.toNatClampNeg := by
        rw [xz_rep, xz_push]; rfl
      rw [eL, eZ] at hroom
      intro H locs ls hR hS hL hn hz T hT Xs
      obtain ⟨vm₁, cA1, comp, -, fA, fC, hO, -, X', step⟩ := Xs.multianewarray2F hx hown (hts _ hg) ho (hts _ hac) (g := F0 m pc ls (.int k :: .int n :: r.map (xcv bs))) rfl (by rw [hb]; exact hd) rfl h1 h2 (by omega) (by
        have e5 : componentBytes FieldType.int ≤ 8 := by decide
        exact Nat.le_trans (Nat.mul_le_mul h4 e5) (by decide)) (by omega) rfl rfl (by omega) (by omega)
      have ec : some (cA 0) = some comp := (hK.2 0 _ rfl).2.symm.trans fC
      cases ec
      have ec4 : some (cA 4) = some cA1 := (hK.2 4 _ rfl).2.symm.trans fA
      cases ec4
      generalize hF : Jvm.Free.Multi.fill (T.setVm vm₁) (cA 4) (cA 0) n.toNatClampNeg k.toNatClampNeg (defaultValue .int) n.toNatClampNeg = F at X' step
      have hTh : (T.setVm vm₁).heap = H := hT
      obtain ⟨f1, f2, -, -⟩ := Jvm.Free.Multi.fill_facts (T.setVm vm₁) (cA 4) (cA 0) n.toNatClampNeg k.toNatClampNeg (defaultValue .int) n.toNatClampNeg
      rw [hF, hTh] at f1 f2
      have hold : ∀ x : Nat, x < H.size → F.heap[x]? = H[x]? := fun x hx => by
        have := Jvm.Free.Multi.fill_old (T.setVm vm₁) (cA 4) (cA 0) n.toNatClampNeg k.toNatClampNeg (defaultValue .int) (a := x) (by rw [hTh]; exact hx) n.toNatClampNeg
        rw [hF, hTh] at this
        exact this
      have hrow : ∀ j : Nat, j < n.toNatClampNeg → F.heap[H.size + 1 + j]? = some (vp_cell (cA 0) (k.toNatClampNeg, .inl (fun _ => 0))) := fun j hj => by
        have := Jvm.Free.Multi.fill_inner (T.setVm vm₁) (cA 4) (cA 0) n.toNatClampNeg k.toNatClampNeg (defaultValue .int) n.toNatClampNeg j hj
        rw [hF, hTh] at this
        rw [this, vp_cell_i, ← arrV_new]
        rfl
      have hout : Jvm.Free.Multi.outerC (cA 4) n.toNatClampNeg H.size n.toNatClampNeg = vp_cell (cA 4) (n.toNatClampNeg, .inr (.inr (.inr (.inr (fun i => if i < n.toNatClampNeg then some (H.size + 1 + i) else none))))) := by
        rw [vp_cell_q]
        exact vr_outer (cA 4) n.toNatClampNeg H.size n.toNatClampNeg
      rw [hout] at f2
      have hsz := hR.2
      have hrel : xRel D cA bs (h ++ [.inr (4, n.toNatClampNeg, .inr (.inr (.inr (.inr (fun i => if i < n.toNatClampNeg then some (h.length + 1 + i) else none)))))] ++ List.replicate n.toNatClampNeg (.inr (0, k.toNatClampNeg, .inl (fun _ => 0)))) F.heap := by
        refine ⟨fun i q hq => ?_, by rw [eL]; omega⟩
        rw [xwd_get] at hq
        obtain ⟨o, ho, rfl⟩ := Option.map_eq_some_iff.mp hq
        rcases xrep_get _ _ _ _ _ _ ho with ⟨g1, g2⟩ | ⟨rfl, rfl⟩ | ⟨j, hj, rfl, rfl⟩
        · exact (hR.1 i _ (xwd_at g2)).kept (hold _ (by show bs + i < H.size; omega))
        · show F.heap[bs + h.length]? = some (vp_cell (cA 4) (n.toNatClampNeg, .inr (.inr (.inr (.inr (fun j => (if j < n.toNatClampNeg then some (h.length + 1 + j) else none).map (fun i => bs + i)))))))
          rw [← hsz, f2]
          congr 7
          funext j
          by_cases hj : j < n.toNatClampNeg
          · rw [if_pos hj, if_pos hj]
            show some (H.size + 1 + j) = some (bs + (h.length + 1 + j))
            congr 1
            omega
          · rw [if_neg hj, if_neg hj]
            rfl
        · show F.heap[bs + (h.length + 1 + j)]? = some (vp_cell (cA 0) (k.toNatClampNeg, .inl (fun _ => 0)))
          rw [show bs + (h.length + 1 + j) = H.size + 1 + j by omega]
          exact hrow j hj
      have hS1 : va_S (fun q => bs ≤ q) s.heap F.heap locs := ⟨by have := hS.1; omega, fun x g1 g2 => (hold x (Nat.lt_of_lt_of_le g1 hS.1)).trans (hS.2.1 x g1 g2), hS.2.2⟩
      have K := kk F.heap locs ls hrel hS1 hL (by rw [eL]; omega) (by rw [eZ]; omega)
      rw [eL, eZ, show h.length + 1 + n.toNatClampNeg - n0 = h.length - n0 + 1 + n.toNatClampNeg by omega, show xz h + n.toNatClampNeg + n.toNatClampNeg * k.toNatClampNeg - z0 = xz h - z0 + n.toNatClampNeg + n.toNatClampNeg * k.toNatClampNeg by omega] at K
      obtain ⟨t, a1, b1⟩ := K F rfl X'
      refine ⟨t, step t ?_, b1⟩
      have e : T.heap.size = bs + h.length := by rw [hT]; exact hsz
      rw [e]
      exact a1
    · cases hst
  · cases hst
end XS
