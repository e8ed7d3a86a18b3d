/-! THE INVARIANT -/
/-- the state told -/
def CS (M : yM) : Prop := (1 ≤ ld M 1 0 ∧ ld M 1 0 ≤ 8) ∧ T8 M 2 ∧ IV (ld M 2) (ld M 1 0) ∧ (1 ≤ ld M 19 0 ∧ ld M 19 0 ≤ 8) ∧ (0 ≤ ld M 7 0 ∧ ld M 7 0 ≤ 8) ∧ T8 M 8 ∧ IV (ld M 8) (ld M 7 0) ∧ (0 ≤ ld M 77 1 ∧ ld M 77 1 ≤ 60) ∧ (ld M 65 7 = 0 ∨ ld M 65 7 = 1) ∧ Z3 M ∧ TS M
/-- the model's -/
def MA (M : yM) : Prop := (1 ≤ ld M 92 2 ∧ ld M 92 2 ≤ 8) ∧ T8 M 93 ∧ IV (ld M 93) (ld M 92 2) ∧ (1 ≤ ld M 92 11 ∧ ld M 92 11 ≤ 8) ∧ (0 ≤ ld M 92 5 ∧ ld M 92 5 ≤ 8) ∧ IV (ld M 95) (ld M 92 5)
def MB (M : yM) : Prop := NN M 0 8 ∧ DG M 0 8
def MC (M : yM) : Prop := ∀ i, 0 ≤ i → i < 4 → WFt M i
def MT (M : yM) : Prop := 0 ≤ ld M 92 21 ∧ ld M 92 21 ≤ 60
def MO (M : yM) : Prop := MA M ∧ MB M ∧ MC M ∧ MT M ∧ RWf M
/-- both alike -/
def RLl (M : yM) : Prop := ld M 1 0 = ld M 92 2 ∧ ld M 19 0 = ld M 92 11 ∧ ld M 7 0 = ld M 92 5 ∧ (∀ j, 0 ≤ j → j < ld M 1 0 → ld M 2 j = ld M 93 j) ∧ (∀ j, 0 ≤ j → j < ld M 7 0 → ld M 8 j = ld M 95 j)
/-- the nets alike; what is told behind the middle is what is told before it, turned -/
def NQ (M : yM) : Prop := ∀ j, 0 ≤ j → j < 64 → ld M 20 j = ld M 100 j
def NL (M : yM) : Prop := ∀ i c, 0 ≤ i → i < 8 → 0 ≤ c → c < 8 → i ≠ c → (0 ≤ ld M 20 (8 * i + c) ∧ ld M 20 (8 * i + c) ≤ al (ld M 1 0)) ∧ ld M 20 (8 * c + i) = tOf (ld M 2) (ld M 20 (8 * i + c)) (ld M 1 0).toNat
def INV (M : yM) : Prop := CS M ∧ MO M ∧ RLl M ∧ NQ M ∧ NL M
abbrev sK (o : Nat) (j : Int) : Prop := (o = 1 ∧ j = 0) ∨ o = 2 ∨ (o = 19 ∧ j = 0)
abbrev sS (o : Nat) (j : Int) : Prop := (o = 7 ∧ j = 0) ∨ o = 8
abbrev sX (o : Nat) (j : Int) : Prop := (o = 77 ∧ j = 1) ∨ (o = 65 ∧ j = 7)
abbrev mK (o : Nat) (j : Int) : Prop := (o = 92 ∧ (j = 2 ∨ j = 11)) ∨ o = 93
abbrev mS (o : Nat) (j : Int) : Prop := (o = 92 ∧ j = 5) ∨ o = 95
theorem CS.c {W : Nat → Int → Prop} {M M' : yM} (h : CS M) (f : fr W M M') (hw : ∀ o j, W o j → ¬ sK o j ∧ ¬ sS o j) (h1 : 0 ≤ ld M' 77 1 ∧ ld M' 77 1 ≤ 60) (h2 : ld M' 65 7 = 0 ∨ ld M' 65 7 = 1) (h3 : Z3 M') (h4 : TS M') : CS M' := by
  have e1 : ld M' 1 0 = ld M 1 0 := f.ld (fun q => (hw _ _ q).1 (Or.inl ⟨rfl, rfl⟩))
  have e2 : ∀ j, ld M' 2 j = ld M 2 j := fun j => f.ld (fun q => (hw _ _ q).1 (Or.inr (Or.inl rfl)))
  have e3 : ld M' 19 0 = ld M 19 0 := f.ld (fun q => (hw _ _ q).1 (Or.inr (Or.inr ⟨rfl, rfl⟩)))
  have e4 : ld M' 7 0 = ld M 7 0 := f.ld (fun q => (hw _ _ q).2 (Or.inl ⟨rfl, rfl⟩))
  have e5 : ∀ j, ld M' 8 j = ld M 8 j := fun j => f.ld (fun q => (hw _ _ q).2 (Or.inr rfl))
  obtain ⟨a1, a2, a3, a4, a5, a6, a7, a8, a9, a10, a11⟩ := h
  refine ⟨by omega, fun j q1 q2 => by rw [e2]; exact a2 j q1 q2, ?_, by omega, by omega, fun j q1 q2 => by rw [e5]; exact a6 j q1 q2, ?_, h1, h2, h3, h4⟩
  · rw [e1]; exact a3.cg (fun j _ _ => e2 j)
  · rw [e4]; exact a7.cg (fun j _ _ => e5 j)
abbrev sZ (o : Nat) (j : Int) : Prop := o = 4 ∨ (o = 10 ∧ j = 0) ∨ (o = 16 ∧ j = 0)
theorem Z3.fr {W : Nat → Int → Prop} {M M' : yM} (h : Z3 M) (f : fr W M M') (hw : ∀ o j, W o j → ¬ sZ o j) : Z3 M' := by
  unfold Z3
  rw [f.ld (fun q => hw _ _ q (Or.inl rfl)), f.ld (fun q => hw _ _ q (Or.inr (Or.inl ⟨rfl, rfl⟩))), f.ld (fun q => hw _ _ q (Or.inr (Or.inr ⟨rfl, rfl⟩)))]
  exact h
theorem CS.m {W : Nat → Int → Prop} {M M' : yM} (h : CS M) (f : fr W M M') (hw : ∀ o j, W o j → 92 ≤ o) : CS M' :=
  h.c f (fun o j q => by have := hw o j q; dsimp only [sK, sS]; omega) (by rw [f.ld (fun q => by have := hw _ _ q; omega)]; exact h.2.2.2.2.2.2.2.1) (by rw [f.ld (fun q => by have := hw _ _ q; omega)]; exact h.2.2.2.2.2.2.2.2.1) (h.2.2.2.2.2.2.2.2.2.1.fr f (fun o j q => by have := hw o j q; dsimp only [sZ]; omega)) (h.2.2.2.2.2.2.2.2.2.2.fr f (fun q => by have := hw _ _ q; omega) (fun j q => by have := hw _ _ q; omega) (fun j q => by have := hw _ _ q; omega))
/-- a table changed, the shelf as it was -/
theorem CS.n {W : Nat → Int → Prop} {M M' : yM} (h : CS M) (f : fr W M M') (hw : ∀ o j, W o j → ¬ sS o j ∧ ¬ sX o j) (b1 : 1 ≤ ld M' 1 0 ∧ ld M' 1 0 ≤ 8) (b2 : T8 M' 2) (b3 : IV (ld M' 2) (ld M' 1 0)) (b4 : 1 ≤ ld M' 19 0 ∧ ld M' 19 0 ≤ 8) (b5 : Z3 M') (b6 : TS M') : CS M' := by
  have e4 : ld M' 7 0 = ld M 7 0 := f.ld (fun q => (hw _ _ q).1 (Or.inl ⟨rfl, rfl⟩))
  have e5 : ∀ j, ld M' 8 j = ld M 8 j := fun j => f.ld (fun q => (hw _ _ q).1 (Or.inr rfl))
  have e6 : ld M' 77 1 = ld M 77 1 := f.ld (fun q => (hw _ _ q).2 (Or.inl ⟨rfl, rfl⟩))
  have e7 : ld M' 65 7 = ld M 65 7 := f.ld (fun q => (hw _ _ q).2 (Or.inr ⟨rfl, rfl⟩))
  obtain ⟨a1, a2, a3, a4, a5, a6, a7, a8, a9, a10, a11⟩ := h
  refine ⟨b1, b2, b3, b4, by omega, fun j q1 q2 => by rw [e5]; exact a6 j q1 q2, ?_, by omega, by omega, b5, b6⟩
  rw [e4]; exact a7.cg (fun j _ _ => e5 j)
theorem MA.q {W : Nat → Int → Prop} {M M' : yM} (h : MA M) (f : fr W M M') (hw : ∀ o j, W o j → ¬ mK o j ∧ ¬ mS o j) : MA M' := by
  have e1 : ld M' 92 2 = ld M 92 2 := f.ld (fun q => (hw _ _ q).1 (Or.inl ⟨rfl, Or.inl rfl⟩))
  have e2 : ∀ j, ld M' 93 j = ld M 93 j := fun j => f.ld (fun q => (hw _ _ q).1 (Or.inr rfl))
  have e3 : ld M' 92 11 = ld M 92 11 := f.ld (fun q => (hw _ _ q).1 (Or.inl ⟨rfl, Or.inr rfl⟩))
  have e4 : ld M' 92 5 = ld M 92 5 := f.ld (fun q => (hw _ _ q).2 (Or.inl ⟨rfl, rfl⟩))
  have e5 : ∀ j, ld M' 95 j = ld M 95 j := fun j => f.ld (fun q => (hw _ _ q).2 (Or.inr rfl))
  obtain ⟨a1, a2, a3, a4, a5, a6⟩ := h
  refine ⟨by omega, fun j q1 q2 => by rw [e2]; exact a2 j q1 q2, ?_, by omega, by omega, ?_⟩
  · rw [e1]; exact a3.cg (fun j _ _ => e2 j)
  · rw [e4]; exact a6.cg (fun j _ _ => e5 j)
theorem MA.n {W : Nat → Int → Prop} {M M' : yM} (h : MA M) (f : fr W M M') (hw : ∀ o j, W o j → ¬ mS o j) (b1 : 1 ≤ ld M' 92 2 ∧ ld M' 92 2 ≤ 8) (b2 : T8 M' 93) (b3 : IV (ld M' 93) (ld M' 92 2)) (b4 : 1 ≤ ld M' 92 11 ∧ ld M' 92 11 ≤ 8) : MA M' := by
  have e4 : ld M' 92 5 = ld M 92 5 := f.ld (fun q => hw _ _ q (Or.inl ⟨rfl, rfl⟩))
  have e5 : ∀ j, ld M' 95 j = ld M 95 j := fun j => f.ld (fun q => hw _ _ q (Or.inr rfl))
  obtain ⟨a1, a2, a3, a4, a5, a6⟩ := h
  refine ⟨b1, b2, b3, b4, by omega, ?_⟩
  rw [e4]; exact a6.cg (fun j _ _ => e5 j)
theorem MB.q {W : Nat → Int → Prop} {M M' : yM} (h : MB M) (f : fr W M M') (hw : ∀ j, 0 ≤ j → j < 64 → ¬ W 100 j) : MB M' := ⟨h.1.frm (by omega) f (fun j h1 h2 => hw j h1 (by omega)), h.2.frm (by omega) f (fun j h1 h2 => hw j h1 (by omega))⟩
theorem MB.of {M : yM} (h : NFm M) (hk : 1 ≤ ld M 92 2 ∧ ld M 92 2 ≤ 8) : MB M := by
  have ha := al_le hk
  refine ⟨fun i c h1 h2 h3 => ?_, fun i h1 h2 => ?_⟩
  · have q := h i c h1 (by omega) (by omega) h3
    rw [if_neg (by omega)] at q
    unfold cel
    rw [show 0 + 8 * i + c = 8 * i + c by omega, q]
    omega
  · have q := h i i h1 h2 h1 h2
    rw [if_pos rfl] at q
    unfold cel
    rw [show 0 + 8 * i + i = 8 * i + i by omega, q]
theorem MC.q {W : Nat → Int → Prop} {M M' : yM} (h : MC M) (f : fr W M M') (hw : ∀ j, ¬ W 107 j ∧ ¬ W 108 j) : MC M' := fun i h1 h2 => (h i h1 h2).fr f (hw _).2 (fun j _ _ => (hw j).1)
theorem MT.q {W : Nat → Int → Prop} {M M' : yM} (h : MT M) (f : fr W M M') (hw : ¬ W 92 21) : MT M' := by
  unfold MT
  rw [f.ld hw]
  exact h
theorem MO.c {W : Nat → Int → Prop} {M M' : yM} (h : MO M) (f : fr W M M') (hw : ∀ o j, W o j → o < 92) : MO M' :=
  ⟨h.1.q f (fun o j q => by have := hw o j q; dsimp only [mK, mS]; omega), h.2.1.q f (fun j _ _ q => by have := hw _ _ q; omega), h.2.2.1.q f (fun j => ⟨fun q => by have := hw _ _ q; omega, fun q => by have := hw _ _ q; omega⟩), h.2.2.2.1.q f (fun q => by have := hw _ _ q; omega), h.2.2.2.2.fr f (fun j q => by have := hw _ _ q; omega)⟩
theorem RLl.q {W : Nat → Int → Prop} {M M' : yM} (h : RLl M) (f : fr W M M') (hw : ∀ o j, W o j → ¬ sK o j ∧ ¬ sS o j ∧ ¬ mK o j ∧ ¬ mS o j) : RLl M' := by
  have e1 : ld M' 1 0 = ld M 1 0 := f.ld (fun q => (hw _ _ q).1 (Or.inl ⟨rfl, rfl⟩))
  have e2 : ∀ j, ld M' 2 j = ld M 2 j := fun j => f.ld (fun q => (hw _ _ q).1 (Or.inr (Or.inl rfl)))
  have e3 : ld M' 19 0 = ld M 19 0 := f.ld (fun q => (hw _ _ q).1 (Or.inr (Or.inr ⟨rfl, rfl⟩)))
  have e4 : ld M' 7 0 = ld M 7 0 := f.ld (fun q => (hw _ _ q).2.1 (Or.inl ⟨rfl, rfl⟩))
  have e5 : ∀ j, ld M' 8 j = ld M 8 j := fun j => f.ld (fun q => (hw _ _ q).2.1 (Or.inr rfl))
  have g1 : ld M' 92 2 = ld M 92 2 := f.ld (fun q => (hw _ _ q).2.2.1 (Or.inl ⟨rfl, Or.inl rfl⟩))
  have g2 : ∀ j, ld M' 93 j = ld M 93 j := fun j => f.ld (fun q => (hw _ _ q).2.2.1 (Or.inr rfl))
  have g3 : ld M' 92 11 = ld M 92 11 := f.ld (fun q => (hw _ _ q).2.2.1 (Or.inl ⟨rfl, Or.inr rfl⟩))
  have g4 : ld M' 92 5 = ld M 92 5 := f.ld (fun q => (hw _ _ q).2.2.2 (Or.inl ⟨rfl, rfl⟩))
  have g5 : ∀ j, ld M' 95 j = ld M 95 j := fun j => f.ld (fun q => (hw _ _ q).2.2.2 (Or.inr rfl))
  obtain ⟨a1, a2, a3, a4, a5⟩ := h
  exact ⟨by omega, by omega, by omega, fun j q1 q2 => by rw [e2, g2]; exact a4 j q1 (by omega), fun j q1 q2 => by rw [e5, g5]; exact a5 j q1 (by omega)⟩
theorem NQ.fr {W : Nat → Int → Prop} {M M' : yM} (h : NQ M) (f : fr W M M') (h1 : ∀ j, ¬ W 20 j) (h2 : ∀ j, 0 ≤ j → j < 64 → ¬ W 100 j) : NQ M' := fun j q1 q2 => by
  rw [f.ld (h1 j), f.ld (h2 j q1 q2)]
  exact h j q1 q2
theorem NL.fr {W : Nat → Int → Prop} {M M' : yM} (h : NL M) (f : fr W M M') (h1 : ∀ j, ¬ W 20 j) (h2 : ∀ j, ¬ W 2 j) (h3 : ¬ W 1 0) : NL M' := fun i c q1 q2 q3 q4 q5 => by
  have e : ld M' 2 = ld M 2 := funext fun j => f.ld (h2 j)
  rw [f.ld (h1 _), f.ld (h1 _), f.ld h3, e]
  exact h i c q1 q2 q3 q4 q5
/-- the nets told anew -/
theorem NQ.of {M : yM} (h : NF M) (h' : NFm M) (e : ld M 1 0 = ld M 92 2) : NQ M := fun j q1 q2 => by
  have w : j = 8 * (j / 8) + j % 8 := by omega
  rw [w, h _ _ (by omega) (by omega) (by omega) (by omega), h' _ _ (by omega) (by omega) (by omega) (by omega), e]
theorem NL.of {M : yM} (h : NF M) (hk : 1 ≤ ld M 1 0 ∧ ld M 1 0 ≤ 8) (hI : IV (ld M 2) (ld M 1 0)) : NL M := fun i c q1 q2 q3 q4 q5 => by
  have ha := al_le hk
  rw [h i c q1 q2 q3 q4, h c i q3 q4 q1 q2, if_neg q5, if_neg (fun e => q5 e.symm), tOf_al hI hk]
  omega
/-- a call that changes nothing that counts -/
theorem INV.c {W : Nat → Int → Prop} {M M' : yM} (h : INV M) (f : fr W M M') (hw : ∀ o j, W o j → o < 92 ∧ ¬ sK o j ∧ ¬ sS o j ∧ o ≠ 20) (h1 : 0 ≤ ld M' 77 1 ∧ ld M' 77 1 ≤ 60) (h2 : ld M' 65 7 = 0 ∨ ld M' 65 7 = 1) (h3 : Z3 M') (h4 : TS M') : INV M' :=
  ⟨h.1.c f (fun o j q => ⟨(hw o j q).2.1, (hw o j q).2.2.1⟩) h1 h2 h3 h4, h.2.1.c f (fun o j q => (hw o j q).1), h.2.2.1.q f (fun o j q => by have := hw o j q; refine ⟨this.2.1, this.2.2.1, ?_, ?_⟩ <;> (dsimp only [mK, mS]; omega)),
    h.2.2.2.1.fr f (fun j q => (hw _ _ q).2.2.2 rfl) (fun j _ _ q => by have := (hw _ _ q).1; omega), h.2.2.2.2.fr f (fun j q => (hw _ _ q).2.2.2 rfl) (fun j q => (hw _ _ q).2.1 (Or.inr (Or.inl rfl))) (fun q => (hw _ _ q).2.1 (Or.inl ⟨rfl, rfl⟩))⟩
theorem INV.m {W : Nat → Int → Prop} {M M' : yM} (h : INV M) (f : fr W M M') (hw : ∀ o j, W o j → 92 ≤ o ∧ ¬ mK o j ∧ ¬ mS o j) (h1 : MB M') (h2 : MC M') (h3 : MT M') (h4 : RWf M') (h5 : NQ M') : INV M' :=
  ⟨h.1.m f (fun o j q => (hw o j q).1), ⟨h.2.1.1.q f (fun o j q => (hw o j q).2), h1, h2, h3, h4⟩, h.2.2.1.q f (fun o j q => by have := hw o j q; refine ⟨?_, ?_, this.2.1, this.2.2⟩ <;> (dsimp only [sK, sS]; omega)), h5, h.2.2.2.2.fr f (fun j q => by have := hw _ _ q; omega) (fun j q => by have := hw _ _ q; omega) (fun q => by have := hw _ _ q; omega)⟩
theorem INV.m0 {M M' : yM} (h : INV M) (f : T0 M M') : INV M' :=
  h.m f (fun o j q => by dsimp only [mK, mS]; omega) (h.2.1.2.1.q f (fun j _ _ => by omega)) (h.2.1.2.2.1.q f (fun j => by omega)) (h.2.1.2.2.2.1.q f (by omega)) (h.2.1.2.2.2.2.fr f (fun j => by omega)) (h.2.2.2.1.fr f (fun j => by omega) (fun j _ _ => by omega))
theorem NN.le {M : yM} {o n m : Int} (h : NN M o n) (hm : m ≤ n) : NN M o m := fun i c h1 h2 h3 => h i c h1 h2 (by omega)
theorem DG.le {M : yM} {o n m : Int} (h : DG M o n) (hm : m ≤ n) : DG M o m := fun i h1 h2 => h i h1 (by omega)

/-- the triangles and the half joins of the table -/
def TXc (M : yM) : Prop := ld M 2 0 = 0 ∧ TBd (ld M 3) (ld M 1 0) ∧ SY (ld M 3) (ld M 2) (ld M 1 0) ∧ HJA M 1 ∧ HZ M
def TXs (M : yM) : Prop := (ld M 7 0 ≠ 0 → ld M 8 0 = 0) ∧ TBd (ld M 9) (ld M 7 0) ∧ SY (ld M 9) (ld M 8) (ld M 7 0)
def TQ (M : yM) : Prop := ∀ a b : Int, 0 ≤ a → a < ld M 1 0 → 0 ≤ b → b < ld M 1 0 → ld M 3 (8 * a + b) = ld M 94 (8 * a + b)
def SQ (M : yM) : Prop := ∀ a b : Int, 0 ≤ a → a < ld M 7 0 → 0 ≤ b → b < ld M 7 0 → ld M 9 (8 * a + b) = ld M 96 (8 * a + b)
def TX (M : yM) : Prop := TXc M ∧ TXs M ∧ TQ M ∧ SQ M
def INV2 (M : yM) : Prop := INV M ∧ TX M
abbrev sT (o : Nat) (j : Int) : Prop := (o = 1 ∧ j = 0) ∨ o = 2 ∨ o = 3 ∨ o = 5
abbrev sU (o : Nat) (j : Int) : Prop := (o = 7 ∧ j = 0) ∨ o = 8 ∨ o = 9
theorem TXc.fr {W : Nat → Int → Prop} {M M' : yM} (h : TXc M) (f : fr W M M') (hw : ∀ o j, W o j → ¬ sT o j) : TXc M' := by
  have e1 : ld M' 1 0 = ld M 1 0 := f.ld (fun q => hw _ _ q (Or.inl ⟨rfl, rfl⟩))
  have e2 : ld M' 2 = ld M 2 := funext fun j => f.ld (fun q => hw _ _ q (Or.inr (Or.inl rfl)))
  have e3 : ld M' 3 = ld M 3 := funext fun j => f.ld (fun q => hw _ _ q (Or.inr (Or.inr (Or.inl rfl))))
  unfold TXc
  rw [e1, e2, e3]
  exact ⟨h.1, h.2.1, h.2.2.1, h.2.2.2.1.fr f (fun q => hw _ _ q (Or.inl ⟨rfl, rfl⟩)) (fun j q => hw _ _ q (Or.inr (Or.inr (Or.inl rfl)))) (fun j q => hw _ _ q (Or.inr (Or.inr (Or.inr rfl)))), h.2.2.2.2.fr f (fun j q => absurd (Or.inr (Or.inr (Or.inr rfl))) (hw 5 j q))⟩
theorem TXs.fr {W : Nat → Int → Prop} {M M' : yM} (h : TXs M) (f : fr W M M') (hw : ∀ o j, W o j → ¬ sU o j) : TXs M' := by
  have e1 : ld M' 7 0 = ld M 7 0 := f.ld (fun q => hw _ _ q (Or.inl ⟨rfl, rfl⟩))
  have e2 : ld M' 8 = ld M 8 := funext fun j => f.ld (fun q => hw _ _ q (Or.inr (Or.inl rfl)))
  have e3 : ld M' 9 = ld M 9 := funext fun j => f.ld (fun q => hw _ _ q (Or.inr (Or.inr rfl)))
  unfold TXs
  rw [e1, e2, e3]
  exact h
theorem TQ.fr {W : Nat → Int → Prop} {M M' : yM} (h : TQ M) (f : fr W M M') (h1 : ¬ W 1 0) (h3 : ∀ j, ¬ W 3 j) (h94 : ∀ j, ¬ W 94 j) : TQ M' := fun a b a1 a2 b1 b2 => by
  rw [f.ld h1] at a2 b2
  rw [f.ld (h3 _), f.ld (h94 _)]
  exact h a b a1 a2 b1 b2
theorem SQ.fr {W : Nat → Int → Prop} {M M' : yM} (h : SQ M) (f : fr W M M') (h1 : ¬ W 7 0) (h3 : ∀ j, ¬ W 9 j) (h94 : ∀ j, ¬ W 96 j) : SQ M' := fun a b a1 a2 b1 b2 => by
  rw [f.ld h1] at a2 b2
  rw [f.ld (h3 _), f.ld (h94 _)]
  exact h a b a1 a2 b1 b2
theorem TX.fr {W : Nat → Int → Prop} {M M' : yM} (h : TX M) (f : fr W M M') (hw : ∀ o j, W o j → ¬ sT o j ∧ ¬ sU o j ∧ o ≠ 94 ∧ o ≠ 96) : TX M' :=
  ⟨h.1.fr f (fun o j q => (hw o j q).1), h.2.1.fr f (fun o j q => (hw o j q).2.1), h.2.2.1.fr f (fun q => (hw _ _ q).1 (Or.inl ⟨rfl, rfl⟩)) (fun j q => (hw _ _ q).1 (Or.inr (Or.inr (Or.inl rfl)))) (fun j q => (hw _ _ q).2.2.1 rfl), h.2.2.2.fr f (fun q => (hw _ _ q).2.1 (Or.inl ⟨rfl, rfl⟩)) (fun j q => (hw _ _ q).2.1 (Or.inr (Or.inr rfl))) (fun j q => (hw _ _ q).2.2.2 rfl)⟩
theorem TX.m0 {M M' : yM} (h : TX M) (f : T0 M M') : TX M' := h.fr f (fun o j q => by dsimp only [sT, sU]; omega)
/-- what is kept of the ways is so, by the class's own table -/
def CA (M : yM) : Prop := CAC M (ld M 3) (ld M 2) (ld M 1 0) (ld M 19 0)
def INV3 (M : yM) : Prop := INV2 M ∧ CA M
abbrev sC (o : Nat) (j : Int) : Prop := (o = 1 ∧ j = 0) ∨ o = 2 ∨ o = 3 ∨ (o = 19 ∧ j = 0) ∨ o = 20 ∨ (58 ≤ o ∧ o ≤ 60) ∨ o = 62
theorem CA.fr {W : Nat → Int → Prop} {M M' : yM} (h : CA M) (f : fr W M M') (hw : ∀ o j, W o j → ¬ sC o j) : CA M' := by
  have e1 : ld M' 1 0 = ld M 1 0 := f.ld (fun q => hw _ _ q (by dsimp only [sC]; omega))
  have e2 : ld M' 2 = ld M 2 := funext fun j => f.ld (fun q => hw _ _ q (by dsimp only [sC]; omega))
  have e3 : ld M' 3 = ld M 3 := funext fun j => f.ld (fun q => hw _ _ q (by dsimp only [sC]; omega))
  have e4 : ld M' 19 0 = ld M 19 0 := f.ld (fun q => hw _ _ q (by dsimp only [sC]; omega))
  unfold CA
  rw [e1, e2, e3, e4]
  exact CAC.fr h f (fun o j q => by have := hw o j q; dsimp only [sC] at this; omega)
theorem CA.m0 {M M' : yM} (h : CA M) (f : T0 M M') : CA M' := h.fr f (fun o j q => by dsimp only [sC]; omega)
theorem CA.of {M M' : yM} (h : CA M) (q : M' = M ∨ FGn M') : CA M' := q.elim (fun e => by rw [e]; exact h) (fun q => CAC.z q.1)
/-- 0 and a kind: that kind -/
def U1 (T : Int → Int) (k : Int) : Prop := ∀ b : Int, 0 ≤ b → b < k → bt (T (8 * 0 + b)) b.toNat = true
def UN (M : yM) : Prop := U1 (ld M 3) (ld M 1 0) ∧ U1 (ld M 9) (ld M 7 0)
/-- what is kept of the fillings is so -/
def FK (M : yM) : Prop := FCC M (ld M 3) (ld M 2) (ld M 1 0) (ld M 19 0)
def INV4 (M : yM) : Prop := INV3 M ∧ FK M ∧ UN M
abbrev sF (o : Nat) (j : Int) : Prop := (o = 1 ∧ j = 0) ∨ o = 2 ∨ o = 3 ∨ (o = 19 ∧ j = 0) ∨ o = 20 ∨ (o = 65 ∧ 5 ≤ j) ∨ o = 66 ∨ o = 67
abbrev sN (o : Nat) (j : Int) : Prop := (o = 1 ∧ j = 0) ∨ o = 3 ∨ (o = 7 ∧ j = 0) ∨ o = 9
theorem FK.fr {W : Nat → Int → Prop} {M M' : yM} (h : FK M) (f : fr W M M') (hw : ∀ o j, W o j → ¬ sF o j) : FK M' := by
  have e1 : ld M' 1 0 = ld M 1 0 := f.ld (fun q => hw _ _ q (by dsimp only [sF]; omega))
  have e2 : ld M' 2 = ld M 2 := funext fun j => f.ld (fun q => hw _ _ q (by dsimp only [sF]; omega))
  have e3 : ld M' 3 = ld M 3 := funext fun j => f.ld (fun q => hw _ _ q (by dsimp only [sF]; omega))
  have e4 : ld M' 19 0 = ld M 19 0 := f.ld (fun q => hw _ _ q (by dsimp only [sF]; omega))
  unfold FK
  rw [e1, e2, e3, e4]
  exact FCC.ofr h f (fun o j q => by have := hw o j q; dsimp only [sF] at this; omega)
theorem FK.m0 {M M' : yM} (h : FK M) (f : T0 M M') : FK M' := h.fr f (fun o j q => by dsimp only [sF]; omega)
theorem FK.of {M M' : yM} (h : FK M) (q : M' = M ∨ FGn M') : FK M' := q.elim (fun e => by rw [e]; exact h) (fun q => FCC.z ⟨q.2.1, q.2.2.1, q.2.2.2.1⟩)
theorem UN.fr {W : Nat → Int → Prop} {M M' : yM} (h : UN M) (f : fr W M M') (hw : ∀ o j, W o j → ¬ sN o j) : UN M' := by
  have e1 : ld M' 1 0 = ld M 1 0 := f.ld (fun q => hw _ _ q (by dsimp only [sN]; omega))
  have e3 : ld M' 3 = ld M 3 := funext fun j => f.ld (fun q => hw _ _ q (by dsimp only [sN]; omega))
  have e7 : ld M' 7 0 = ld M 7 0 := f.ld (fun q => hw _ _ q (by dsimp only [sN]; omega))
  have e9 : ld M' 9 = ld M 9 := funext fun j => f.ld (fun q => hw _ _ q (by dsimp only [sN]; omega))
  unfold UN
  rw [e1, e3, e7, e9]
  exact h
theorem UN.m0 {M M' : yM} (h : UN M) (f : T0 M M') : UN M' := h.fr f (fun o j q => by dsimp only [sN]; omega)
/-- the table anew, the shelf as it was -/
theorem un_n {W : Nat → Int → Prop} {M M' : yM} (h : UN M) (f : fr W M M') (h7 : ¬ W 7 0) (h9 : ∀ j, ¬ W 9 j) (u : U1 (ld M' 3) (ld M' 1 0)) : UN M' := ⟨u, by
  rw [f.ld h7, show ld M' 9 = ld M 9 from funext fun j => f.ld (h9 j)]
  exact h.2⟩
theorem U1.bit {k b : Int} (hb : 0 ≤ b ∧ b < 8) : bt (yshl 1 b) b.toNat = true := by rw [bt_bit (by omega), decide_eq_true_eq]
theorem U1.opn {M : yM} (hk : ld M 1 0 ≤ 8) (h : OPN M) : U1 (ld M 3) (ld M 1 0) := fun b b1 b2 => by
  rw [h 0 b (by omega) (by omega) b1 b2]
  unfold tv
  rw [if_pos rfl]
  exact U1.bit (k := 0) (by omega)
theorem U1.fus {T N U : Int → Int} {k m : Int} (h : U1 T k) (hU : FSP T N k m k 0 U) (hk : 1 ≤ k) (h0 : N 0 = 0) (hm : 1 ≤ m) (hs : ∀ j : Int, 0 ≤ j → j < m → ∃ c : Int, (0 ≤ c ∧ c < k) ∧ N c = j) : U1 U m := fun b b1 b2 => by
  obtain ⟨c, hc, e⟩ := hs b b1 b2
  exact (hU 0 b (by omega) (by omega) b1 b2 b.toNat).mpr ⟨0, c, c, by omega, hc, hc, by omega, h0, e, by omega, h c hc.1 hc.2⟩
theorem U1.two {T S U : Int → Int} {k m : Int} (h : U1 T k) (h' : U1 S m) (hU : TWO T S k m U) (hk : 1 ≤ k) (hm : 1 ≤ m) (h8 : k * m ≤ 8) : U1 U (k * m) := fun b b1 b2 => by
  have hk8 : k ≤ 8 := by
    have := Int.mul_le_mul_of_nonneg_left hm (show 0 ≤ k by omega)
    omega
  have hs := shx (x := b) (m := k) (n := m) ⟨b1, b2⟩ ⟨hk, hk8⟩ h8
  generalize yrem b k = c at hs
  generalize ydiv b k = r at hs
  have w := (hU 0 0 c r (by omega) (by omega) (by omega) (by omega) hs.1.1 hs.1.2 hs.2.1.1 hs.2.1.2 b.toNat).mpr ⟨c, r, hs.1, hs.2.1, by rw [Int.toNat_of_nonneg b1]; exact hs.2.2, h c hs.1.1 hs.1.2, h' r hs.2.1.1 hs.2.1.2⟩
  rw [← hs.2.2, show (0 : Int) + k * 0 = 0 by omega] at w
  exact w
theorem U1.st6 {T f : Int → Int} {k a b c is : Int} (h : U1 T k) (hk : k ≤ 8) (hI : IV f k) (h0 : f 0 = 0) (ha : 1 ≤ a ∧ a < k) (hb : 1 ≤ b ∧ b < k) (hc : 1 ≤ c ∧ c < k) : U1 (st6 T f a b c is) k := fun e e1 e2 => by
  have nz : ∀ x : Int, 1 ≤ x → x < k → f x ≠ 0 := fun x x1 x2 q => by
    have w := (hI x (by omega) x2).2
    rw [q, h0] at w
    omega
  have fa := nz a ha.1 ha.2
  have fb := nz b hb.1 hb.2
  have fc := nz c hc.1 hc.2
  rw [(st6_bt (T := T) (is := is) hk hI (p := 0) (q := e) (by omega) (by omega) (by omega) (by omega) (t := e.toNat) (by omega)).2 (fun o => by unfold O6 at o; omega)]
  exact h e e1 e2
theorem U1.cu {T U : Int → Int} {k : Int} (h : U1 T k) (e : ∀ b : Int, 0 ≤ b → b < k → U (8 * 0 + b) = T (8 * 0 + b)) : U1 U k := fun b b1 b2 => by
  rw [e b b1 b2]
  exact h b b1 b2
theorem tv_cg {f g : Int → Int} {k i j : Int} (e : f i = g i) : tv f k i j = tv g k i j := by
  unfold tv
  rw [e]
theorem TXc.opn {M : yM} (hk : 1 ≤ ld M 1 0 ∧ ld M 1 0 ≤ 8) (hI : IV (ld M 2) (ld M 1 0)) (h0 : ld M 2 0 = 0) (ho : OPN M) (hj : HJA M 1) (hz : HZ M) : TXc M :=
  ⟨h0, fun a b a1 a2 b1 b2 => by rw [ho a b a1 a2 b1 b2]; exact tv_bd hk ⟨a1, a2⟩ ⟨b1, b2⟩, SY.opn hk hI h0 ho, hj, hz⟩
theorem TQ.opn {M : yM} (ho : OPN M) (hm : OPNm M) (e : ld M 1 0 = ld M 92 2) (ef : ∀ j, 0 ≤ j → j < ld M 1 0 → ld M 2 j = ld M 93 j) : TQ M := fun a b a1 a2 b1 b2 => by
  rw [ho a b a1 a2 b1 b2, hm a b a1 (by omega) b1 (by omega), ← e]
  exact tv_cg (ef a a1 a2)
