abbrev wFl (o : Nat) (j : Int) : Prop := (o = 100 ∧ 64 ≤ j) ∨ o = 101 ∨ o = 102 ∨ o = 103 ∨ o = 104 ∨ o = 105 ∨ (o = 92 ∧ (j = 15 ∨ j = 17))
/-! MODEL: FILLINGS -/
theorem yand1 (a : Int) : 0 ≤ yand a 1 ∧ yand a 1 ≤ 1 := by
  rw [yand_1]
  split <;> omega
/-- how many pairs there are with a first point below i -/
def pcn (n : Int) : Nat → Int
  | 0 => 0
  | i + 1 => pcn n i + (n - 1 - i)
theorem pcn_k : ∀ n : Nat, n ≤ 8 → ∀ i : Nat, i < n → 0 ≤ pcn (n : Int) i ∧ pcn (n : Int) i + ((n : Int) - 1 - i) ≤ 28 := by decide +kernel
theorem pcn_le {n x : Int} (hn : 0 ≤ n ∧ n ≤ 8) (hx : 0 ≤ x ∧ x < n) : 0 ≤ pcn n x.toNat ∧ pcn n x.toNat + (n - 1 - x) ≤ 28 := by
  have := pcn_k n.toNat (by omega) x.toNat (by omega)
  rw [show ((n.toNat : Nat) : Int) = n by omega, show ((x.toNat : Nat) : Int) = x by omega] at this
  exact this
theorem pcn_s {n x : Int} (hx : 0 ≤ x) : pcn n (x + 1).toNat = pcn n x.toNat + (n - 1 - x) := by
  rw [show (x + 1).toNat = x.toNat + 1 by omega]
  simp only [pcn]
  omega
/-- the pairs that are listed -/
def PRf (M : yM) (c n : Int) : Prop := ∀ p, 0 ≤ p → p < c → 0 ≤ ld M 101 p ∧ ld M 101 p < ld M 102 p ∧ ld M 102 p < n
def PRc (M : yM) (c : Int) (P : Int → Int → Prop) : Prop := ∀ i j, P i j → ∃ p, 0 ≤ p ∧ p < c ∧ ld M 101 p = i ∧ ld M 102 p = j
theorem PR_step {M M1 M2 : yM} {c n a b : Int} {P : Int → Int → Prop} (e1 : M1 = put M 101 c a) (e2 : M2 = put M1 102 c b) (hab : 0 ≤ a ∧ a < b ∧ b < n) (hn : n ≤ 8) (hc : 0 ≤ c) (h : PRf M c n) (h' : PRc M c P) : PRf M2 (c + 1) n ∧ PRc M2 (c + 1) (fun i j => P i j ∨ i = a ∧ j = b) := by
  have e101 : ∀ p, ld M2 101 p = if p = c then a else ld M 101 p := fun p => by
    rw [e2, ld_putne (by omega), e1, ld_put (by omega)]
    by_cases q : p = c
    · rw [if_pos ⟨rfl, q⟩, if_pos q]
    · rw [if_neg (fun r => q r.2), if_neg q]
  have e102 : ∀ p, ld M2 102 p = if p = c then b else ld M 102 p := fun p => by
    rw [e2, ld_put (by omega), e1]
    by_cases q : p = c
    · rw [if_pos ⟨rfl, q⟩, if_pos q]
    · rw [if_neg (fun r => q r.2), if_neg q, ld_putne (by omega)]
  refine ⟨fun p h1 h2 => ?_, fun i j hP => ?_⟩
  · rw [e101, e102]
    by_cases q : p = c
    · rw [if_pos q, if_pos q]; exact hab
    · rw [if_neg q, if_neg q]; exact h p h1 (by omega)
  · rcases hP with hP | ⟨rfl, rfl⟩
    · obtain ⟨p, h1, h2, h3, h4⟩ := h' i j hP
      refine ⟨p, h1, by omega, ?_, ?_⟩
      · rw [e101, if_neg (by omega)]; exact h3
      · rw [e102, if_neg (by omega)]; exact h4
    · exact ⟨c, hc, by omega, by rw [e101, if_pos rfl], by rw [e102, if_pos rfl]⟩
theorem PRf.fr {W : Nat → Int → Prop} {M M' : yM} {c n : Int} (h : PRf M c n) (f : fr W M M') (hw : ∀ j, ¬ W 101 j ∧ ¬ W 102 j) : PRf M' c n := fun p h1 h2 => by
  rw [f.ld (hw p).1, f.ld (hw p).2]
  exact h p h1 h2
theorem PRc.fr {W : Nat → Int → Prop} {M M' : yM} {c : Int} {P : Int → Int → Prop} (h : PRc M c P) (f : fr W M M') (hw : ∀ j, ¬ W 101 j ∧ ¬ W 102 j) : PRc M' c P := fun i j hP => by
  obtain ⟨p, h1, h2, h3, h4⟩ := h i j hP
  exact ⟨p, h1, h2, by rw [f.ld (hw p).1]; exact h3, by rw [f.ld (hw p).2]; exact h4⟩
theorem PRc.mono {M : yM} {c : Int} {P P' : Int → Int → Prop} (h : PRc M c P) (hp : ∀ i j, P' i j → P i j) : PRc M c P' := fun i j q => h i j (hp i j q)
def DG (M : yM) (o n : Int) : Prop := ∀ i, 0 ≤ i → i < n → cel M o i i = 1
def EM (M : yM) (o n : Int) : Prop := ∀ i j, 0 ≤ i → i < n → 0 ≤ j → j < n → cel M o i j ≠ 0
def STP (M : yM) (o p : Int) : Prop := isB (cel M o (ld M 101 p) (ld M 102 p)) ∧ isB (cel M o (ld M 102 p) (ld M 101 p))
/-- the net of a level, with q pairs tried -/
def LV (M : yM) (q n : Int) : Prop := NN M (64 * (q + 1)) n ∧ DG M (64 * (q + 1)) n ∧ EM M (64 * (q + 1)) n ∧ ∀ p, 0 ≤ p → p < q → STP M (64 * (q + 1)) p
/-- what holds at a level -/
def FI (M : yM) (a n c : Int) : Prop := PRf M c n ∧ PRc M c (fun i j => 0 ≤ i ∧ i < j ∧ j < n) ∧ ∀ q, 0 ≤ q → q ≤ a → LV M q n
def wDp (a : Int) (o : Nat) (j : Int) : Prop := (o = 103 ∧ a ≤ j) ∨ (o = 100 ∧ 64 * (a + 2) ≤ j) ∨ o = 104 ∨ o = 105 ∨ (o = 92 ∧ j = 17)
theorem LV.fr {W : Nat → Int → Prop} {M M' : yM} {q n c : Int} (hn : n ≤ 8) (hq : q ≤ c) (hP : PRf M c n) (h : LV M q n) (f : fr W M M') (hw : ∀ j, ¬ W 101 j ∧ ¬ W 102 j) (hw2 : ∀ j, 64 * (q + 1) ≤ j → j < 64 * (q + 2) → ¬ W 100 j) : LV M' q n := by
  have e : ∀ i j, 0 ≤ i → i < n → 0 ≤ j → j < n → cel M' (64 * (q + 1)) i j = cel M (64 * (q + 1)) i j := fun i j h1 h2 h3 h4 => f.ld (hw2 _ (by omega) (by omega))
  obtain ⟨g1, g2, g3, g4⟩ := h
  refine ⟨fun i c h1 h2 h3 => ?_, fun i h1 h2 => ?_, fun i j h1 h2 h3 h4 => ?_, fun p h1 h2 => ?_⟩
  · rw [e i c h1 (by omega) (by omega) h3]; exact g1 i c h1 h2 h3
  · rw [e i i h1 h2 h1 h2]; exact g2 i h1 h2
  · rw [e i j h1 h2 h3 h4]; exact g3 i j h1 h2 h3 h4
  · have hp := hP p h1 (by omega)
    have g := g4 p h1 h2
    unfold STP at g ⊢
    rw [f.ld (hw p).1, f.ld (hw p).2, e _ _ (by omega) (by omega) (by omega) (by omega), e _ _ (by omega) (by omega) (by omega) (by omega)]
    exact g
theorem FI.fr {M M' : yM} {a n c : Int} (hn : n ≤ 8) (ha : a ≤ c) (h : FI M a n c) (f : fr (wDp a) M M') : FI M' a n c := by
  have hw : ∀ j, ¬ wDp a 101 j ∧ ¬ wDp a 102 j := fun j => ⟨by unfold wDp; omega, by unfold wDp; omega⟩
  exact ⟨h.1.fr f hw, h.2.1.fr f hw, fun q h1 h2 => (h.2.2 q h1 h2).fr hn (by omega) h.1 f hw (fun j h3 h4 => by unfold wDp; omega)⟩
theorem wDp_up {a b : Int} (h : a ≤ b) : ∀ o j, wDp b o j → wDp a o j := fun o j hw => by
  unfold wDp at hw ⊢
  omega
theorem takes_ex {M M1 : yM} {o i j : Int} (h : isB (cel M o i j) ∧ cel M o i j ≠ 0) (e : ld M1 100 (o + 8 * i + j) = ld M 100 (o + 8 * i + j)) : ∃ x : Nat, x < 8 ∧ ld M1 100 (o + 8 * i + j) = yshl 1 (x : Int) ∧ (0 : Int) ≤ x := by
  rcases h.1 with h0 | ⟨x, hx, h1⟩
  · exact absurd h0 h.2
  · exact ⟨x, hx, e.trans h1, by omega⟩
theorem c12_takes {d : Nat} {Q : yM → Prop} {M : yM} {x1 : Int}  (hmn : 1 ≤ ld M 92 11 ∧ ld M 92 11 ≤ 8) (h1 : 0 ≤ x1 ∧ x1 + 64 ≤ 2048) (hB : ∀ i j, 0 ≤ i → i < ld M 92 11 → 0 ≤ j → j < ld M 92 11 → isB (cel M x1 i j) ∧ cel M x1 i j ≠ 0) (k : ∀ (M' : yM), fr (fun o j => o = 104 ∨ o = 105 ∨ (o = 92 ∧ j = 17)) M M' → Q M') : XCv d 155 [.inr (.inr 92), .inl x1] M Q := by
  refine eX12_takes ?_
  have fM : fr (fun o j => o = 104 ∨ o = 105 ∨ (o = 92 ∧ j = 17)) M M := fr.rf
  have go : ∀ N : Nat, (∀ (x2 : Int) (wx3 : Option yV) (wx4 : Option yV) (wx5 : Option yV) (M9 : yM), fr (fun o j => o = 104 ∨ o = 105 ∨ (o = 92 ∧ j = 17)) M M9 → (0 ≤ x2 ∧ x2 ≤ 8) → ((8 - x2) * 400 + 300 < (N : Int)) → XW kX12_takes d none (wQv Q) 2 [some (.inr (.inr 92)), some (.inl x1), some (.inl x2), wx3, wx4, wx5] [] M9) ∧ (∀ (x2 : Int) (x3 : Int) (wx4 : Option yV) (wx5 : Option yV) (M9 : yM), fr (fun o j => o = 104 ∨ o = 105 ∨ (o = 92 ∧ j = 17)) M M9 → (0 ≤ x2 ∧ x2 < ld M9 92 11 ∧ x2 < 8) → (0 ≤ x3 ∧ x3 ≤ 8) → ((8 - x2) * 400 + (8 - x3) * 20 + 15 < (N : Int)) → XW kX12_takes d none (wQv Q) 12 [some (.inr (.inr 92)), some (.inl x1), some (.inl x2), some (.inl x3), wx4, wx5] [] M9) ∧ (∀ (x2 : Int) (x3 : Int) (x4 : Int) (x5 : Int) (M9 : yM), fr (fun o j => o = 104 ∨ o = 105 ∨ (o = 92 ∧ j = 17)) M M9 → (0 ≤ x2 ∧ x2 < ld M9 92 11 ∧ x2 < 8) → (0 ≤ x3 ∧ x3 < ld M9 92 11 ∧ x3 < 8) → (0 ≤ x5 ∧ x5 ≤ 8) → (∃ x : Nat, x < 8 ∧ x4 = yshl 1 (x : Int) ∧ x5 ≤ x) → ((8 - x2) * 400 + (8 - x3) * 20 + 8 - x5 < (N : Int)) → XW kX12_takes d none (wQv Q) 38 [some (.inr (.inr 92)), some (.inl x1), some (.inl x2), some (.inl x3), some (.inl x4), some (.inl x5)] [] M9) := by
    intro N
    induction N with
    | zero => refine ⟨?_, ?_, ?_⟩ <;> (intros; exfalso; omega)
    | succ N ih =>
      obtain ⟨ih0, ih1, ih2⟩ := ih
      refine ⟨?_, ?_, ?_⟩
      · skip
        clear fM
        intro x2 wx3 wx4 wx5 M1 fM i0 hm
        have k92_11 := fM.ld (o := 92) (j := 11) (by intro hw; first | omega | (dsimp only [wSub, wRun, wNar, wFil, wCan, wLst, wCar, wDr, wFl] at hw; omega) | (simp [wSub, wRun, wNar, wFil, wCan, wLst, wCar, wDr, wFl] at hw; done) | (simp [wSub, wRun, wNar, wFil, wCan, wLst, wCar, wDr, wFl] at hw; omega))
        refine uX12_takes_2 (by first | omega | assumption | with_reducible exact rng_ld _ _ _ | with_reducible exact rng_yand _ _ | with_reducible exact rng_yor _ _ | with_reducible exact rng_zcmp _ _ | with_reducible exact yand7 _ | with_reducible exact rng_toInt _ | with_reducible exact yarr23 (by omega) | with_reducible exact yarr57 (by omega) | with_reducible exact Or.inl rfl | with_reducible exact Or.inr rfl) (fun hc => ?_) (fun hc => ?_)
        · skip
          refine uX12_takes_115 ?_
          intro M2 hM2
          replace fM := fr.put fM hM2 (by first | omega | (dsimp only [wSub, wRun, wNar, wFil, wCan, wLst, wCar, wDr, wFl]; done) | (dsimp only [wSub, wRun, wNar, wFil, wCan, wLst, wCar, wDr, wFl]; omega) | (simp [wSub, wRun, wNar, wFil, wCan, wLst, wCar, wDr, wFl]; done) | (simp [wSub, wRun, wNar, wFil, wCan, wLst, wCar, wDr, wFl]; omega))
          have k92_11 := fM.ld (o := 92) (j := 11) (by intro hw; first | omega | (dsimp only [wSub, wRun, wNar, wFil, wCan, wLst, wCar, wDr, wFl] at hw; omega) | (simp [wSub, wRun, wNar, wFil, wCan, wLst, wCar, wDr, wFl] at hw; done) | (simp [wSub, wRun, wNar, wFil, wCan, wLst, wCar, wDr, wFl] at hw; omega))
          refine uX12_takes_125 ?_
          exact k _ fM 
        · skip
          refine uX12_takes_10 ?_
          exact ih1 _ _ _ _ M1 fM (by first | omega | assumption | with_reducible exact rng_ld _ _ _ | with_reducible exact rng_yand _ _ | with_reducible exact rng_yor _ _ | with_reducible exact rng_zcmp _ _ | with_reducible exact yand7 _ | with_reducible exact rng_toInt _ | with_reducible exact yarr23 (by omega) | with_reducible exact yarr57 (by omega) | with_reducible exact Or.inl rfl | with_reducible exact Or.inr rfl) (by first | omega | assumption | with_reducible exact rng_ld _ _ _ | with_reducible exact rng_yand _ _ | with_reducible exact rng_yor _ _ | with_reducible exact rng_zcmp _ _ | with_reducible exact yand7 _ | with_reducible exact rng_toInt _ | with_reducible exact yarr23 (by omega) | with_reducible exact yarr57 (by omega) | with_reducible exact Or.inl rfl | with_reducible exact Or.inr rfl) (by omega)
      · skip
        clear fM
        intro x2 x3 wx4 wx5 M3 fM i0 i1 hm
        have k92_11 := fM.ld (o := 92) (j := 11) (by intro hw; first | omega | (dsimp only [wSub, wRun, wNar, wFil, wCan, wLst, wCar, wDr, wFl] at hw; omega) | (simp [wSub, wRun, wNar, wFil, wCan, wLst, wCar, wDr, wFl] at hw; done) | (simp [wSub, wRun, wNar, wFil, wCan, wLst, wCar, wDr, wFl] at hw; omega))
        refine uX12_takes_12 (by first | omega | assumption | with_reducible exact rng_ld _ _ _ | with_reducible exact rng_yand _ _ | with_reducible exact rng_yor _ _ | with_reducible exact rng_zcmp _ _ | with_reducible exact yand7 _ | with_reducible exact rng_toInt _ | with_reducible exact yarr23 (by omega) | with_reducible exact yarr57 (by omega) | with_reducible exact Or.inl rfl | with_reducible exact Or.inr rfl) (fun hc => ?_) (fun hc => ?_)
        · skip
          refine uX12_takes_109 ?_
          exact ih0 _ _ _ _ M3 fM (by first | omega | assumption | with_reducible exact rng_ld _ _ _ | with_reducible exact rng_yand _ _ | with_reducible exact rng_yor _ _ | with_reducible exact rng_zcmp _ _ | with_reducible exact yand7 _ | with_reducible exact rng_toInt _ | with_reducible exact yarr23 (by omega) | with_reducible exact yarr57 (by omega) | with_reducible exact Or.inl rfl | with_reducible exact Or.inr rfl) (by omega)
        · skip
          refine uX12_takes_20 (by first | omega | assumption | with_reducible exact rng_ld _ _ _ | with_reducible exact rng_yand _ _ | with_reducible exact rng_yor _ _ | with_reducible exact rng_zcmp _ _ | with_reducible exact yand7 _ | with_reducible exact rng_toInt _ | with_reducible exact yarr23 (by omega) | with_reducible exact yarr57 (by omega) | with_reducible exact Or.inl rfl | with_reducible exact Or.inr rfl) ?_
          exact ih2 _ _ _ _ M3 fM (by first | omega | assumption | with_reducible exact rng_ld _ _ _ | with_reducible exact rng_yand _ _ | with_reducible exact rng_yor _ _ | with_reducible exact rng_zcmp _ _ | with_reducible exact yand7 _ | with_reducible exact rng_toInt _ | with_reducible exact yarr23 (by omega) | with_reducible exact yarr57 (by omega) | with_reducible exact Or.inl rfl | with_reducible exact Or.inr rfl) (by first | omega | assumption | with_reducible exact rng_ld _ _ _ | with_reducible exact rng_yand _ _ | with_reducible exact rng_yor _ _ | with_reducible exact rng_zcmp _ _ | with_reducible exact yand7 _ | with_reducible exact rng_toInt _ | with_reducible exact yarr23 (by omega) | with_reducible exact yarr57 (by omega) | with_reducible exact Or.inl rfl | with_reducible exact Or.inr rfl) (by first | omega | assumption | with_reducible exact rng_ld _ _ _ | with_reducible exact rng_yand _ _ | with_reducible exact rng_yor _ _ | with_reducible exact rng_zcmp _ _ | with_reducible exact yand7 _ | with_reducible exact rng_toInt _ | with_reducible exact yarr23 (by omega) | with_reducible exact yarr57 (by omega) | with_reducible exact Or.inl rfl | with_reducible exact Or.inr rfl) (by first | exact ⟨x, hx, hxe, by omega⟩ | exact takes_ex (hB x2 x3 (by omega) (by omega) (by omega) (by omega)) (fM.ld (by omega))) (by omega)
      · skip
        clear fM
        intro x2 x3 x4 x5 M4 fM i0 i1 i2 i3 hm
        have k92_11 := fM.ld (o := 92) (j := 11) (by intro hw; first | omega | (dsimp only [wSub, wRun, wNar, wFil, wCan, wLst, wCar, wDr, wFl] at hw; omega) | (simp [wSub, wRun, wNar, wFil, wCan, wLst, wCar, wDr, wFl] at hw; done) | (simp [wSub, wRun, wNar, wFil, wCan, wLst, wCar, wDr, wFl] at hw; omega))
        obtain ⟨x, hx, hxe, hxl⟩ := i3
        have hxr := yshl_rng8 x hx
        refine uX12_takes_38 (by first | omega | assumption | with_reducible exact rng_ld _ _ _ | with_reducible exact rng_yand _ _ | with_reducible exact rng_yor _ _ | with_reducible exact rng_zcmp _ _ | with_reducible exact yand7 _ | with_reducible exact rng_toInt _ | with_reducible exact yarr23 (by omega) | with_reducible exact yarr57 (by omega) | with_reducible exact Or.inl rfl | with_reducible exact Or.inr rfl) (fun hc => ?_) (fun hc => ?_)
        · skip
          refine uX12_takes_53 (fun hc => ?_) (fun hc => ?_)
          · skip
            refine uX12_takes_75 (by first | omega | assumption | with_reducible exact rng_ld _ _ _ | with_reducible exact rng_yand _ _ | with_reducible exact rng_yor _ _ | with_reducible exact rng_zcmp _ _ | with_reducible exact yand7 _ | with_reducible exact rng_toInt _ | with_reducible exact yarr23 (by omega) | with_reducible exact yarr57 (by omega) | with_reducible exact Or.inl rfl | with_reducible exact Or.inr rfl) ?_
            refine uX12_takes_86 (by first | omega | assumption | with_reducible exact rng_ld _ _ _ | with_reducible exact rng_yand _ _ | with_reducible exact rng_yor _ _ | with_reducible exact rng_zcmp _ _ | with_reducible exact yand7 _ | with_reducible exact rng_toInt _ | with_reducible exact yarr23 (by omega) | with_reducible exact yarr57 (by omega) | with_reducible exact Or.inl rfl | with_reducible exact Or.inr rfl) ?_
            intro M5 hM5
            replace fM := fr.put fM hM5 (by first | omega | (dsimp only [wSub, wRun, wNar, wFil, wCan, wLst, wCar, wDr, wFl]; done) | (dsimp only [wSub, wRun, wNar, wFil, wCan, wLst, wCar, wDr, wFl]; omega) | (simp [wSub, wRun, wNar, wFil, wCan, wLst, wCar, wDr, wFl]; done) | (simp [wSub, wRun, wNar, wFil, wCan, wLst, wCar, wDr, wFl]; omega))
            have k92_11 := fM.ld (o := 92) (j := 11) (by intro hw; first | omega | (dsimp only [wSub, wRun, wNar, wFil, wCan, wLst, wCar, wDr, wFl] at hw; omega) | (simp [wSub, wRun, wNar, wFil, wCan, wLst, wCar, wDr, wFl] at hw; done) | (simp [wSub, wRun, wNar, wFil, wCan, wLst, wCar, wDr, wFl] at hw; omega))
            refine uX12_takes_87 (by first | omega | assumption | with_reducible exact rng_ld _ _ _ | with_reducible exact rng_yand _ _ | with_reducible exact rng_yor _ _ | with_reducible exact rng_zcmp _ _ | with_reducible exact yand7 _ | with_reducible exact rng_toInt _ | with_reducible exact yarr23 (by omega) | with_reducible exact yarr57 (by omega) | with_reducible exact Or.inl rfl | with_reducible exact Or.inr rfl) (by first | omega | assumption | with_reducible exact rng_ld _ _ _ | with_reducible exact rng_yand _ _ | with_reducible exact rng_yor _ _ | with_reducible exact rng_zcmp _ _ | with_reducible exact yand7 _ | with_reducible exact rng_toInt _ | with_reducible exact yarr23 (by omega) | with_reducible exact yarr57 (by omega) | with_reducible exact Or.inl rfl | with_reducible exact Or.inr rfl) ?_
            intro M6 hM6
            replace fM := fr.put fM hM6 (by first | omega | (dsimp only [wSub, wRun, wNar, wFil, wCan, wLst, wCar, wDr, wFl]; done) | (dsimp only [wSub, wRun, wNar, wFil, wCan, wLst, wCar, wDr, wFl]; omega) | (simp [wSub, wRun, wNar, wFil, wCan, wLst, wCar, wDr, wFl]; done) | (simp [wSub, wRun, wNar, wFil, wCan, wLst, wCar, wDr, wFl]; omega))
            have k92_11 := fM.ld (o := 92) (j := 11) (by intro hw; first | omega | (dsimp only [wSub, wRun, wNar, wFil, wCan, wLst, wCar, wDr, wFl] at hw; omega) | (simp [wSub, wRun, wNar, wFil, wCan, wLst, wCar, wDr, wFl] at hw; done) | (simp [wSub, wRun, wNar, wFil, wCan, wLst, wCar, wDr, wFl] at hw; omega))
            refine uX12_takes_103 ?_
            exact ih1 _ _ _ _ M6 fM (by first | omega | assumption | with_reducible exact rng_ld _ _ _ | with_reducible exact rng_yand _ _ | with_reducible exact rng_yor _ _ | with_reducible exact rng_zcmp _ _ | with_reducible exact yand7 _ | with_reducible exact rng_toInt _ | with_reducible exact yarr23 (by omega) | with_reducible exact yarr57 (by omega) | with_reducible exact Or.inl rfl | with_reducible exact Or.inr rfl) (by first | omega | assumption | with_reducible exact rng_ld _ _ _ | with_reducible exact rng_yand _ _ | with_reducible exact rng_yor _ _ | with_reducible exact rng_zcmp _ _ | with_reducible exact yand7 _ | with_reducible exact rng_toInt _ | with_reducible exact yarr23 (by omega) | with_reducible exact yarr57 (by omega) | with_reducible exact Or.inl rfl | with_reducible exact Or.inr rfl) (by omega)
          · skip
            refine uX12_takes_70 ?_
            refine uX12_takes_86 (by first | omega | assumption | with_reducible exact rng_ld _ _ _ | with_reducible exact rng_yand _ _ | with_reducible exact rng_yor _ _ | with_reducible exact rng_zcmp _ _ | with_reducible exact yand7 _ | with_reducible exact rng_toInt _ | with_reducible exact yarr23 (by omega) | with_reducible exact yarr57 (by omega) | with_reducible exact Or.inl rfl | with_reducible exact Or.inr rfl) ?_
            intro M7 hM7
            replace fM := fr.put fM hM7 (by first | omega | (dsimp only [wSub, wRun, wNar, wFil, wCan, wLst, wCar, wDr, wFl]; done) | (dsimp only [wSub, wRun, wNar, wFil, wCan, wLst, wCar, wDr, wFl]; omega) | (simp [wSub, wRun, wNar, wFil, wCan, wLst, wCar, wDr, wFl]; done) | (simp [wSub, wRun, wNar, wFil, wCan, wLst, wCar, wDr, wFl]; omega))
            have k92_11 := fM.ld (o := 92) (j := 11) (by intro hw; first | omega | (dsimp only [wSub, wRun, wNar, wFil, wCan, wLst, wCar, wDr, wFl] at hw; omega) | (simp [wSub, wRun, wNar, wFil, wCan, wLst, wCar, wDr, wFl] at hw; done) | (simp [wSub, wRun, wNar, wFil, wCan, wLst, wCar, wDr, wFl] at hw; omega))
            refine uX12_takes_87 (by first | omega | assumption | with_reducible exact rng_ld _ _ _ | with_reducible exact rng_yand _ _ | with_reducible exact rng_yor _ _ | with_reducible exact rng_zcmp _ _ | with_reducible exact yand7 _ | with_reducible exact rng_toInt _ | with_reducible exact yarr23 (by omega) | with_reducible exact yarr57 (by omega) | with_reducible exact Or.inl rfl | with_reducible exact Or.inr rfl) (by first | omega | assumption | with_reducible exact rng_ld _ _ _ | with_reducible exact rng_yand _ _ | with_reducible exact rng_yor _ _ | with_reducible exact rng_zcmp _ _ | with_reducible exact yand7 _ | with_reducible exact rng_toInt _ | with_reducible exact yarr23 (by omega) | with_reducible exact yarr57 (by omega) | with_reducible exact Or.inl rfl | with_reducible exact Or.inr rfl) ?_
            intro M8 hM8
            replace fM := fr.put fM hM8 (by first | omega | (dsimp only [wSub, wRun, wNar, wFil, wCan, wLst, wCar, wDr, wFl]; done) | (dsimp only [wSub, wRun, wNar, wFil, wCan, wLst, wCar, wDr, wFl]; omega) | (simp [wSub, wRun, wNar, wFil, wCan, wLst, wCar, wDr, wFl]; done) | (simp [wSub, wRun, wNar, wFil, wCan, wLst, wCar, wDr, wFl]; omega))
            have k92_11 := fM.ld (o := 92) (j := 11) (by intro hw; first | omega | (dsimp only [wSub, wRun, wNar, wFil, wCan, wLst, wCar, wDr, wFl] at hw; omega) | (simp [wSub, wRun, wNar, wFil, wCan, wLst, wCar, wDr, wFl] at hw; done) | (simp [wSub, wRun, wNar, wFil, wCan, wLst, wCar, wDr, wFl] at hw; omega))
            refine uX12_takes_103 ?_
            exact ih1 _ _ _ _ M8 fM (by first | omega | assumption | with_reducible exact rng_ld _ _ _ | with_reducible exact rng_yand _ _ | with_reducible exact rng_yor _ _ | with_reducible exact rng_zcmp _ _ | with_reducible exact yand7 _ | with_reducible exact rng_toInt _ | with_reducible exact yarr23 (by omega) | with_reducible exact yarr57 (by omega) | with_reducible exact Or.inl rfl | with_reducible exact Or.inr rfl) (by first | omega | assumption | with_reducible exact rng_ld _ _ _ | with_reducible exact rng_yand _ _ | with_reducible exact rng_yor _ _ | with_reducible exact rng_zcmp _ _ | with_reducible exact yand7 _ | with_reducible exact rng_toInt _ | with_reducible exact yarr23 (by omega) | with_reducible exact yarr57 (by omega) | with_reducible exact Or.inl rfl | with_reducible exact Or.inr rfl) (by omega)
        · skip
          have hne : x5 ≠ (x : Int) := fun e => hc (by rw [hxe, e])
          refine uX12_takes_47 ?_
          exact ih2 _ _ _ _ M4 fM (by first | omega | assumption | with_reducible exact rng_ld _ _ _ | with_reducible exact rng_yand _ _ | with_reducible exact rng_yor _ _ | with_reducible exact rng_zcmp _ _ | with_reducible exact yand7 _ | with_reducible exact rng_toInt _ | with_reducible exact yarr23 (by omega) | with_reducible exact yarr57 (by omega) | with_reducible exact Or.inl rfl | with_reducible exact Or.inr rfl) (by first | omega | assumption | with_reducible exact rng_ld _ _ _ | with_reducible exact rng_yand _ _ | with_reducible exact rng_yor _ _ | with_reducible exact rng_zcmp _ _ | with_reducible exact yand7 _ | with_reducible exact rng_toInt _ | with_reducible exact yarr23 (by omega) | with_reducible exact yarr57 (by omega) | with_reducible exact Or.inl rfl | with_reducible exact Or.inr rfl) (by first | omega | assumption | with_reducible exact rng_ld _ _ _ | with_reducible exact rng_yand _ _ | with_reducible exact rng_yor _ _ | with_reducible exact rng_zcmp _ _ | with_reducible exact yand7 _ | with_reducible exact rng_toInt _ | with_reducible exact yarr23 (by omega) | with_reducible exact yarr57 (by omega) | with_reducible exact Or.inl rfl | with_reducible exact Or.inr rfl) (by first | exact ⟨x, hx, hxe, by omega⟩ | exact takes_ex (hB x2 x3 (by omega) (by omega) (by omega) (by omega)) (fM.ld (by omega))) (by omega)
  refine uX12_takes_0 ?_
  exact (go 1000000).1 _ _ _ _ M fM (by first | omega | assumption | with_reducible exact rng_ld _ _ _ | with_reducible exact rng_yand _ _ | with_reducible exact rng_yor _ _ | with_reducible exact rng_zcmp _ _ | with_reducible exact yand7 _ | with_reducible exact rng_toInt _ | with_reducible exact yarr23 (by omega) | with_reducible exact yarr57 (by omega) | with_reducible exact Or.inl rfl | with_reducible exact Or.inr rfl) (by omega)
/-- the search through the fillings, from a level on: it comes back to the level above, or ends -/
theorem fl_main {d : Nat} {Q : yM → Prop} {x1 n c kk : Int} (hx1 : yR x1) (hn : 1 ≤ n ∧ n ≤ 8) (hc : 0 ≤ c ∧ c ≤ 28) (hkk : 1 ≤ kk ∧ kk ≤ 8) : ∀ (m : Nat) (a : Int) (Mb : yM), 0 ≤ a → a + m = c → FI Mb a n c → ld Mb 92 2 = kk → ld Mb 92 11 = n → ld Mb 92 15 = c → (∀ t, 0 ≤ t → t < 8 → 0 ≤ ld Mb 93 t ∧ ld Mb 93 t < 8) → (a < c → -1 ≤ ld Mb 103 a ∧ ld Mb 103 a < kk) →
    (∀ (M' : yM) (w3 w4 w5 : Option yV), fr (wDp a) Mb M' → XW kX12_fills (d + 4) none (wQv Q) 129 [some (.inr (.inr 92)), some (.inl x1), some (.inl (a - 1)), w3, w4, w5] [] M') → (∀ M', fr (wDp a) Mb M' → Q M') →
    ∀ w3 w4 w5 : Option yV, XW kX12_fills (d + 4) none (wQv Q) 129 [some (.inr (.inr 92)), some (.inl x1), some (.inl a), w3, w4, w5] [] Mb := by
  intro m
  induction m with
  | zero =>
    intro a Mb ha hac hFI hk hn2 hc2 ht hko K E w3 w4 w5
    refine uX12_fills_129 (by omega) (fun _ => by omega) (fun _ => ?_)
    refine uX12_fills_133 hx1 (fun _ => uX12_fills_324 (E _ fr.rf)) (fun _ => ?_)
    refine uX12_fills_141 (by omega) (fun _ => by omega) (fun _ => ?_)
    refine uX12_fills_156 ?_
    obtain ⟨g1, g2, g3, g4⟩ := hFI.2.2 a ha (by omega)
    refine c12_takes (by omega) (by omega) (fun i j h1 h2 h3 h4 => ⟨?_, g3 i j h1 (by omega) h3 (by omega)⟩) (fun M2 f2 => ?_)
    · rcases (by omega : i = j ∨ i < j ∨ j < i) with e | e | e
      · subst e
        rw [g2 i h1 (by omega)]
        exact isB_1
      · obtain ⟨p, p1, p2, p3, p4⟩ := hFI.2.1 i j ⟨h1, e, by omega⟩
        have := (g4 p p1 (by omega)).1
        rw [p3, p4] at this
        exact this
      · obtain ⟨p, p1, p2, p3, p4⟩ := hFI.2.1 j i ⟨h3, e, by omega⟩
        have := (g4 p p1 (by omega)).2
        rw [p3, p4] at this
        exact this
    · refine uX12_fills_161 ?_
      refine uX12_fills_321 ?_
      exact K M2 _ _ _ (f2.up (fun o j hw => by unfold wDp; omega))
  | succ m ih =>
    intro a Mb ha hac hFI hk hn2 hc2 ht hko K E
    have hko' := hko (by omega)
    have inner : ∀ (r : Nat) (M : yM), kk - 1 - ld M 103 a = r → fr (wDp a) Mb M → -1 ≤ ld M 103 a → ∀ w3 w4 w5 : Option yV, XW kX12_fills (d + 4) none (wQv Q) 129 [some (.inr (.inr 92)), some (.inl x1), some (.inl a), w3, w4, w5] [] M := by
      intro r
      induction r using Nat.strongRecOn with
      | ind r ihr =>
        intro M hr fM hlo w3 w4 w5
        have k2 : ld M 92 2 = kk := by rw [fM.ld (by unfold wDp; omega)]; exact hk
        have k11 : ld M 92 11 = n := by rw [fM.ld (by unfold wDp; omega)]; exact hn2
        have k15 : ld M 92 15 = c := by rw [fM.ld (by unfold wDp; omega)]; exact hc2
        have hFM := hFI.fr (by omega) (by omega) fM
        have htM : ∀ t, 0 ≤ t → t < 8 → 0 ≤ ld M 93 t ∧ ld M 93 t < 8 := fun t h1 h2 => by rw [fM.ld (by unfold wDp; omega)]; exact ht t h1 h2
        obtain ⟨p1, p2, p3⟩ := hFM.1 a ha (by omega)
        refine uX12_fills_129 (by omega) (fun _ => by omega) (fun _ => ?_)
        refine uX12_fills_133 hx1 (fun _ => uX12_fills_324 (E _ fM)) (fun _ => ?_)
        refine uX12_fills_141 (by omega) (fun _ => ?_) (fun _ => by omega)
        refine uX12_fills_167 (by omega) (by omega) (by omega) (by omega) ?_
        generalize hx5 : ld M 100 (64 * (a + 1) + 8 * ld M 101 a + ld M 102 a) = x5
        have cont : ∀ x4 : Int, ld M 103 a < x4 → x4 ≤ kk → XW kX12_fills (d + 4) none (wQv Q) 227 [some (.inr (.inr 92)), some (.inl x1), some (.inl a), some (.inl (64 * (a + 1))), some (.inl x4), some (.inl x5)] [] M := by
          intro x4 h4 h5
          refine uX12_fills_227 (by omega) ?_
          intro M1 e1
          have f1 : fr (wDp a) Mb M1 := fM.put e1 (by unfold wDp; omega)
          have fM1 : fr (fun o j => o = 103 ∧ j = a) M M1 := fr.put fr.rf e1 ⟨rfl, rfl⟩
          have q2 : ld M1 92 2 = kk := by rw [fM1.ld (by omega)]; exact k2
          have q11 : ld M1 92 11 = n := by rw [fM1.ld (by omega)]; exact k11
          have q15 : ld M1 92 15 = c := by rw [fM1.ld (by omega)]; exact k15
          have q103 : ld M1 103 a = x4 := by rw [e1]; exact ld_same (by omega)
          have q101 : ld M1 101 a = ld M 101 a := fM1.ld (by omega)
          have q102 : ld M1 102 a = ld M 102 a := fM1.ld (by omega)
          have hF1 := hFI.fr (by omega) (by omega) f1
          have ht1 : ∀ t, 0 ≤ t → t < 8 → 0 ≤ ld M1 93 t ∧ ld M1 93 t < 8 := fun t h1 h2 => by rw [fM1.ld (by omega)]; exact htM t h1 h2
          refine uX12_fills_235 (by omega) (fun hne => ?_) (fun _ => uX12_fills_244 (uX12_fills_321 (K _ _ _ _ f1)))
          refine uX12_fills_250 ?_
          refine c12_copies (by omega) (fun M2 f2 hcp => ?_)
          refine uX12_fills_259 (by omega) (by omega) ?_
          have r101 : ld M2 101 a = ld M 101 a := by rw [f2.ld (by omega)]; exact q101
          have r102 : ld M2 102 a = ld M 102 a := by rw [f2.ld (by omega)]; exact q102
          have r2 : ld M2 92 2 = kk := by rw [f2.ld (by omega)]; exact q2
          refine XC.deep (c12_puts (d := 0) (by omega) (by omega) (by omega) (fun M3 f3 hpt => ?_)) (by omega)
          rw [r101, r102] at hpt f3
          obtain ⟨g1, g2, g3, g4⟩ := hF1.2.2 a ha (by omega)
          have s2 : ld M3 92 2 = kk := by rw [f3.ld (by omega)]; exact r2
          have s11 : ld M3 92 11 = n := by rw [f3.ld (by omega), f2.ld (by omega)]; exact q11
          have s15 : ld M3 92 15 = c := by rw [f3.ld (by omega), f2.ld (by omega)]; exact q15
          have ht2 : ∀ t, 0 ≤ t → t < 8 → 0 ≤ ld M2 93 t ∧ ld M2 93 t < 8 := fun t h1 h2 => by rw [f2.ld (by omega)]; exact ht1 t h1 h2
          have ht3 : ∀ t, 0 ≤ t → t < 8 → 0 ≤ ld M3 93 t ∧ ld M3 93 t < 8 := fun t h1 h2 => by rw [f3.ld (by omega)]; exact ht2 t h1 h2
          have hB := isB_bit (a := x4) (by omega)
          have hBr := isB_rng hB
          have hT : isB (tOf (ld M2 93) (yshl 1 x4) (ld M2 92 2).toNat) := tOf_isB ht2 hB (by omega)
          have hN2 : NN M2 (64 * (a + 1) + 64) n := NN.cpy (by omega) hcp g1
          have hN3 : NN M3 (64 * (a + 1) + 64) n := NN.put (by omega) (by omega) hpt hN2 (rng_yshl _ _) (tOf_rng _ _ _) hBr.1
          have cel3 : ∀ i j, 0 ≤ i ∧ i < 8 ∧ 0 ≤ j ∧ j < 8 → cel M3 (64 * (a + 1) + 64) i j = if i = ld M 102 a ∧ j = ld M 101 a then tOf (ld M2 93) (yshl 1 x4) (ld M2 92 2).toNat else if i = ld M 101 a ∧ j = ld M 102 a then yshl 1 x4 else cel M1 (64 * (a + 1)) i j := fun i j hij => by
            rw [hpt, cel_put2 (rng_yshl _ _) (tOf_rng _ _ _) (by omega) i j hij, cel_cpy hcp hij]
          refine uX12_fills_283 ?_
          refine XC.deep (c12_fully (d := 0) (by omega) (by omega) ht3 (by omega) (by rw [s11]; exact hN3) (fun v M4 f4 hOK => ?_)) (by omega)
          rw [s11] at hOK
          refine uX12_fills_291 ?_
          have t11 : ld M4 92 11 = n := by rw [f4.ld (by omega)]; exact s11
          refine c12_isEmpty (by omega) (by omega) (fun v2 hv2 hem => ?_)
          have fall : fr (fun o j => o = 100 ∧ 64 * (a + 2) ≤ j) M1 M4 := fun o j hw => by
            have h2 := f2 o j (fun q => hw (by omega))
            have h3 := f3 o j (fun q => hw (by omega))
            have h4 := f4 o j (fun q => hw (by omega))
            exact ⟨by rw [h4.1, h3.1, h2.1], by rw [h4.2, h3.2, h2.2]⟩
          have f14 : fr (wDp a) Mb M4 := f1.tr fall (fun o j hw => by unfold wDp; omega)
          have t2 : ld M4 92 2 = kk := by rw [f4.ld (by omega)]; exact s2
          have t15 : ld M4 92 15 = c := by rw [f4.ld (by omega)]; exact s15
          have t103 : ld M4 103 a = x4 := by rw [fall.ld (by omega)]; exact q103
          have ht4 : ∀ t, 0 ≤ t → t < 8 → 0 ≤ ld M4 93 t ∧ ld M4 93 t < 8 := fun t h1 h2 => by rw [f4.ld (by omega)]; exact ht3 t h1 h2
          refine uX12_fills_300 (by omega) (fun hne2 => ?_) (fun h0 => ?_)
          · refine uX12_fills_321 ?_
            exact ihr (kk - 1 - x4).toNat (by omega) M4 (by omega) f14 (by omega) _ _ _
          · have l101 : ∀ j, ld M4 101 j = ld M1 101 j := fun j => fall.ld (by omega)
            have l102 : ∀ j, ld M4 102 j = ld M1 102 j := fun j => fall.ld (by omega)
            have l1 : ∀ j, ld M1 101 j = ld M 101 j := fun j => fM1.ld (by omega)
            have l2 : ∀ j, ld M1 102 j = ld M 102 j := fun j => fM1.ld (by omega)
            have hF4 : FI M4 (a + 1) n c := by
              have hFa := hF1.fr (by omega) (by omega) (fall.up (fun o j hw => by unfold wDp; omega))
              refine ⟨hFa.1, hFa.2.1, fun q h1 h2 => ?_⟩
              by_cases e : q ≤ a
              · exact hFa.2.2 q h1 e
              · have hq : q = a + 1 := by omega
                subst hq
                unfold LV
                rw [show 64 * (a + 1 + 1) = 64 * (a + 1) + 64 by omega]
                refine ⟨hOK.nn, fun i h3 h4 => ?_, fun i j h3 h4 h5 h6 => hem (by omega) i j h3 (by omega) h5 (by omega), fun p h3 h4 => ?_⟩
                · rw [hOK.2 i h3 h4, cel3 i i (by omega), if_neg (by omega), if_neg (by omega)]
                  exact g2 i h3 h4
                · obtain ⟨b1, b2, b3⟩ := hFM.1 p h3 (by omega)
                  have key : isB (cel M3 (64 * (a + 1) + 64) (ld M 101 p) (ld M 102 p)) ∧ isB (cel M3 (64 * (a + 1) + 64) (ld M 102 p) (ld M 101 p)) := by
                    rw [cel3 _ _ (by omega), cel3 _ _ (by omega), if_neg (by omega)]
                    by_cases w : ld M 101 p = ld M 101 a ∧ ld M 102 p = ld M 102 a
                    · rw [if_pos w, if_pos ⟨w.2, w.1⟩]
                      exact ⟨hB, hT⟩
                    · rw [if_neg w, if_neg (fun r => w ⟨r.2, r.1⟩), if_neg (by omega)]
                      have hpa : p ≠ a := fun e => w (by rw [e]; exact ⟨rfl, rfl⟩)
                      have := g4 p h3 (by omega)
                      unfold STP at this
                      rw [l1, l2] at this
                      exact this
                  have := (hOK.1 _ _ b1 b2 b3).2.2 key.1 key.2
                  unfold STP
                  rw [l101, l102, l1, l2]
                  exact this
            refine uX12_fills_303 (by omega) (fun hge => ?_) (fun hlt => ?_)
            · refine uX12_fills_321 ?_
              refine ih (a + 1) M4 (by omega) (by omega) hF4 t2 t11 t15 ht4 (fun hx => absurd hx (by omega)) (fun M' v3 v4 v5 h => ?_) (fun M' h => E M' (f14.tr h (wDp_up (by omega)))) _ _ _
              rw [show a + 1 - 1 = a by omega]
              have u103 : ld M' 103 a = x4 := by rw [h.ld (by unfold wDp; omega)]; exact t103
              exact ihr (kk - 1 - x4).toNat (by omega) M' (by omega) (f14.tr h (wDp_up (by omega))) (by omega) _ _ _
            · refine uX12_fills_314 (by omega) ?_
              intro M5 e5
              have f5 : fr (wDp (a + 1)) M4 M5 := fr.put fr.rf e5 (by unfold wDp; omega)
              have fk5 : fr (fun o j => o = 103) M4 M5 := fr.put fr.rf e5 rfl
              refine uX12_fills_321 ?_
              refine ih (a + 1) M5 (by omega) (by omega) (hF4.fr (by omega) (by omega) f5) (by rw [fk5.ld (by omega)]; exact t2) (by rw [fk5.ld (by omega)]; exact t11) (by rw [fk5.ld (by omega)]; exact t15) (fun t h1 h2 => by rw [fk5.ld (by omega)]; exact ht4 t h1 h2) (fun _ => by rw [e5, ld_same (by omega)]; omega) (fun M' v3 v4 v5 h => ?_) (fun M' h => E M' ((f14.tr f5 (wDp_up (by omega))).tr h (wDp_up (by omega)))) _ _ _
              rw [show a + 1 - 1 = a by omega]
              have u103 : ld M' 103 a = x4 := by rw [h.ld (by unfold wDp; omega), f5.ld (by unfold wDp; omega)]; exact t103
              exact ihr (kk - 1 - x4).toNat (by omega) M' (by omega) ((f14.tr f5 (wDp_up (by omega))).tr h (wDp_up (by omega))) (by omega) _ _ _
        have scan : ∀ (s : Nat) (x4 : Int), x4 + s = kk → ld M 103 a < x4 → XW kX12_fills (d + 4) none (wQv Q) 202 [some (.inr (.inr 92)), some (.inl x1), some (.inl a), some (.inl (64 * (a + 1))), some (.inl x4), some (.inl x5)] [] M := by
          intro s
          induction s with
          | zero =>
            intro x4 h1 h2
            exact uX12_fills_202 (by omega) (fun _ => cont x4 h2 (by omega)) (fun _ => by omega)
          | succ s ihs =>
            intro x4 h1 h2
            refine uX12_fills_202 (by omega) (fun _ => by omega) (fun _ => ?_)
            refine uX12_fills_211 (fun _ => cont x4 h2 (by omega)) (fun _ => ?_)
            refine uX12_fills_221 ?_
            exact ihs (x4 + 1) (by omega) (by omega)
        exact scan (kk - (ld M 103 a + 1)).toNat (ld M 103 a + 1) (by omega) (by omega)
    exact inner (kk - 1 - ld Mb 103 a).toNat Mb (by omega) fr.rf (by omega)
theorem pcn_top_k : ∀ n : Nat, n ≤ 8 → 0 ≤ pcn (n : Int) n ∧ pcn (n : Int) n ≤ 28 := by decide +kernel
theorem pcn_top {n : Int} (hn : 0 ≤ n ∧ n ≤ 8) : 0 ≤ pcn n n.toNat ∧ pcn n n.toNat ≤ 28 := by
  have := pcn_top_k n.toNat (by omega)
  rw [show ((n.toNat : Nat) : Int) = n by omega] at this
  exact this
theorem PRf.pt {M M' : yM} {c n k v : Int} {o : Nat} (h : PRf M c n) (e : M' = put M o k v) (ho : o ≠ 101 ∧ o ≠ 102) : PRf M' c n := fun p h1 h2 => by
  subst e
  rw [ld_putne (by omega), ld_putne (by omega)]
  exact h p h1 h2
theorem PRc.pt {M M' : yM} {c k v : Int} {o : Nat} {P : Int → Int → Prop} (h : PRc M c P) (e : M' = put M o k v) (ho : o ≠ 101 ∧ o ≠ 102) : PRc M' c P := fun i j hP => by
  obtain ⟨p, h1, h2, h3, h4⟩ := h i j hP
  subst e
  exact ⟨p, h1, h2, by rw [ld_putne (by omega)]; exact h3, by rw [ld_putne (by omega)]; exact h4⟩
theorem DG.frm {W : Nat → Int → Prop} {M1 M2 : yM} {o n : Int} (hn : n ≤ 8) (h : DG M1 o n) (f : fr W M1 M2) (hw : ∀ j, o ≤ j → j < o + 64 → ¬ W 100 j) : DG M2 o n := fun i h1 h2 => by
  have e : cel M2 o i i = cel M1 o i i := f.ld (hw _ (by omega) (by omega))
  rw [e]
  exact h i h1 h2
theorem c12_fills {d : Nat} {Q : yM → Prop} {M : yM} {x1 : Int}  (hmk : 1 ≤ ld M 92 2 ∧ ld M 92 2 ≤ 8) (hmn : 1 ≤ ld M 92 11 ∧ ld M 92 11 ≤ 8) (hmt : ∀ a, 0 ≤ a → a < 8 → 0 ≤ ld M 93 a ∧ ld M 93 a < 8) (p1 : -2147483648 ≤ x1 ∧ x1 < 2147483648) (hN : NN M 64 (ld M 92 11)) (hG : DG M 64 (ld M 92 11)) (k : ∀ (M' : yM), fr (wFl) M M' → Q M') : XCv (d + 4) 154 [.inr (.inr 92), .inl x1] M Q := by
  refine eX12_fills ?_
  have fM : fr (wFl) M M := fr.rf
  have hpt := pcn_top (n := ld M 92 11) (by omega)
  have go : ∀ N : Nat, (∀ (x2 : Int) (wx3 : Option yV) (M9 : yM), fr (wFl) M M9 → (0 ≤ x2 ∧ x2 ≤ ld M 92 11) → (ld M9 92 15 = pcn (ld M 92 11) x2.toNat) → (PRf M9 (ld M9 92 15) (ld M 92 11)) → (PRc M9 (ld M9 92 15) (fun i j => 0 ≤ i ∧ i < j ∧ j < ld M 92 11 ∧ i < x2)) → (fr (fun o j => o = 101 ∨ o = 102 ∨ (o = 92 ∧ j = 15)) M M9) → ((8 - x2) * 40 + 120 < (N : Int)) → XW kX12_fills (d + 4) none (wQv Q) 7 [some (.inr (.inr 92)), some (.inl x1), some (.inl x2), wx3, none, none] [] M9) ∧ (∀ (x2 : Int) (x3 : Int) (M9 : yM), fr (wFl) M M9 → (0 ≤ x2 ∧ x2 < ld M 92 11) → (x2 < x3 ∧ x3 ≤ ld M 92 11) → (ld M9 92 15 = pcn (ld M 92 11) x2.toNat + (x3 - x2 - 1)) → (PRf M9 (ld M9 92 15) (ld M 92 11)) → (PRc M9 (ld M9 92 15) (fun i j => 0 ≤ i ∧ i < j ∧ j < ld M 92 11 ∧ (i < x2 ∨ i = x2 ∧ j < x3))) → (fr (fun o j => o = 101 ∨ o = 102 ∨ (o = 92 ∧ j = 15)) M M9) → ((8 - x2) * 40 + 108 - x3 < (N : Int)) → XW kX12_fills (d + 4) none (wQv Q) 19 [some (.inr (.inr 92)), some (.inl x1), some (.inl x2), some (.inl x3), none, none] [] M9) ∧ (∀ (x2 : Int) (wx3 : Option yV) (M9 : yM), fr (wFl) M M9 → (0 ≤ x2 ∧ x2 ≤ 64) → (0 ≤ ld M9 92 15 ∧ ld M9 92 15 ≤ 28) → (PRf M9 (ld M9 92 15) (ld M 92 11)) → (PRc M9 (ld M9 92 15) (fun i j => 0 ≤ i ∧ i < j ∧ j < ld M 92 11)) → (fr (fun o j => o = 101 ∨ o = 102 ∨ o = 104 ∨ o = 105 ∨ (o = 92 ∧ (j = 15 ∨ j = 17))) M M9) → (64 - x2 < (N : Int)) → XW kX12_fills (d + 4) none (wQv Q) 76 [some (.inr (.inr 92)), some (.inl x1), some (.inl x2), wx3, none, none] [] M9) := by
    intro N
    induction N with
    | zero => refine ⟨?_, ?_, ?_⟩ <;> (intros; exfalso; omega)
    | succ N ih =>
      obtain ⟨ih0, ih1, ih2⟩ := ih
      refine ⟨?_, ?_, ?_⟩
      · skip
        clear fM
        intro x2 wx3 M1 fM i0 i1 i2 i3 i4 hm
        have k92_2 := fM.ld (o := 92) (j := 2) (by intro hw; first | omega | (dsimp only [wSub, wRun, wNar, wFil, wCan, wLst, wCar, wDr, wFl] at hw; omega) | (simp [wSub, wRun, wNar, wFil, wCan, wLst, wCar, wDr, wFl] at hw; done) | (simp [wSub, wRun, wNar, wFil, wCan, wLst, wCar, wDr, wFl] at hw; omega))
        have k92_11 := fM.ld (o := 92) (j := 11) (by intro hw; first | omega | (dsimp only [wSub, wRun, wNar, wFil, wCan, wLst, wCar, wDr, wFl] at hw; omega) | (simp [wSub, wRun, wNar, wFil, wCan, wLst, wCar, wDr, wFl] at hw; done) | (simp [wSub, wRun, wNar, wFil, wCan, wLst, wCar, wDr, wFl] at hw; omega))
        refine uX12_fills_7 (by first | omega | assumption | with_reducible exact rng_ld _ _ _ | with_reducible exact rng_yand _ _ | with_reducible exact rng_yor _ _ | with_reducible exact rng_zcmp _ _ | with_reducible exact yand7 _ | with_reducible exact rng_toInt _ | with_reducible exact yarr23 (by omega) | with_reducible exact yarr57 (by omega) | with_reducible exact Or.inl rfl | with_reducible exact Or.inr rfl) (fun hc => ?_) (fun hc => ?_)
        · skip
          refine uX12_fills_69 ?_
          intro M2 hM2
          replace fM := fr.put fM hM2 (by first | omega | (dsimp only [wSub, wRun, wNar, wFil, wCan, wLst, wCar, wDr, wFl]; done) | (dsimp only [wSub, wRun, wNar, wFil, wCan, wLst, wCar, wDr, wFl]; omega) | (simp [wSub, wRun, wNar, wFil, wCan, wLst, wCar, wDr, wFl]; done) | (simp [wSub, wRun, wNar, wFil, wCan, wLst, wCar, wDr, wFl]; omega))
          have k92_2 := fM.ld (o := 92) (j := 2) (by intro hw; first | omega | (dsimp only [wSub, wRun, wNar, wFil, wCan, wLst, wCar, wDr, wFl] at hw; omega) | (simp [wSub, wRun, wNar, wFil, wCan, wLst, wCar, wDr, wFl] at hw; done) | (simp [wSub, wRun, wNar, wFil, wCan, wLst, wCar, wDr, wFl] at hw; omega))
          have k92_11 := fM.ld (o := 92) (j := 11) (by intro hw; first | omega | (dsimp only [wSub, wRun, wNar, wFil, wCan, wLst, wCar, wDr, wFl] at hw; omega) | (simp [wSub, wRun, wNar, wFil, wCan, wLst, wCar, wDr, wFl] at hw; done) | (simp [wSub, wRun, wNar, wFil, wCan, wLst, wCar, wDr, wFl] at hw; omega))
          have k15d : ld M2 92 15 = ld M1 92 15 := by rw [hM2, ld_putne (by omega)]
          have fs : fr (fun o j => o = 101 ∨ o = 102 ∨ o = 104 ∨ o = 105 ∨ (o = 92 ∧ (j = 15 ∨ j = 17))) M M2 := fr.put (i4.up (fun o j hw => by omega)) hM2 (by omega)
          have pf := i2.pt hM2 (by omega)
          have pc2 := (PRc.mono (P' := fun i j => 0 ≤ i ∧ i < j ∧ j < ld M 92 11) i3 (fun i j q => by omega)).pt hM2 (by omega)
          rw [← k15d] at pf pc2
          have hx2 : x2 = ld M 92 11 := by omega
          rw [hx2] at i1
          refine uX12_fills_74 ?_
          exact ih2 _ _ M2 fM (by first | omega | assumption | with_reducible exact rng_ld _ _ _ | with_reducible exact rng_yand _ _ | with_reducible exact rng_yor _ _ | with_reducible exact rng_zcmp _ _ | with_reducible exact yand7 _ | with_reducible exact rng_toInt _ | with_reducible exact yarr23 (by omega) | with_reducible exact yarr57 (by omega) | with_reducible exact Or.inl rfl | with_reducible exact Or.inr rfl) (by omega) pf pc2 fs (by omega)
        · skip
          refine uX12_fills_15 ?_
          exact ih1 _ _ M1 fM (by first | omega | assumption | with_reducible exact rng_ld _ _ _ | with_reducible exact rng_yand _ _ | with_reducible exact rng_yor _ _ | with_reducible exact rng_zcmp _ _ | with_reducible exact yand7 _ | with_reducible exact rng_toInt _ | with_reducible exact yarr23 (by omega) | with_reducible exact yarr57 (by omega) | with_reducible exact Or.inl rfl | with_reducible exact Or.inr rfl) (by first | omega | assumption | with_reducible exact rng_ld _ _ _ | with_reducible exact rng_yand _ _ | with_reducible exact rng_yor _ _ | with_reducible exact rng_zcmp _ _ | with_reducible exact yand7 _ | with_reducible exact rng_toInt _ | with_reducible exact yarr23 (by omega) | with_reducible exact yarr57 (by omega) | with_reducible exact Or.inl rfl | with_reducible exact Or.inr rfl) (by omega) (by first | exact pf | assumption) (by first | exact PRc.mono pc2 (fun i j q => by omega) | exact PRc.mono (by assumption) (fun i j q => by omega)) (by first | exact fs3 | assumption) (by omega)
      · skip
        clear fM
        intro x2 x3 M3 fM i0 i1 i2 i3 i4 i5 hm
        have k92_2 := fM.ld (o := 92) (j := 2) (by intro hw; first | omega | (dsimp only [wSub, wRun, wNar, wFil, wCan, wLst, wCar, wDr, wFl] at hw; omega) | (simp [wSub, wRun, wNar, wFil, wCan, wLst, wCar, wDr, wFl] at hw; done) | (simp [wSub, wRun, wNar, wFil, wCan, wLst, wCar, wDr, wFl] at hw; omega))
        have k92_11 := fM.ld (o := 92) (j := 11) (by intro hw; first | omega | (dsimp only [wSub, wRun, wNar, wFil, wCan, wLst, wCar, wDr, wFl] at hw; omega) | (simp [wSub, wRun, wNar, wFil, wCan, wLst, wCar, wDr, wFl] at hw; done) | (simp [wSub, wRun, wNar, wFil, wCan, wLst, wCar, wDr, wFl] at hw; omega))
        refine uX12_fills_19 (by first | omega | assumption | with_reducible exact rng_ld _ _ _ | with_reducible exact rng_yand _ _ | with_reducible exact rng_yor _ _ | with_reducible exact rng_zcmp _ _ | with_reducible exact yand7 _ | with_reducible exact rng_toInt _ | with_reducible exact yarr23 (by omega) | with_reducible exact yarr57 (by omega) | with_reducible exact Or.inl rfl | with_reducible exact Or.inr rfl) (fun hc => ?_) (fun hc => ?_)
        · skip
          refine uX12_fills_63 ?_
          exact ih0 _ _ M3 fM (by first | omega | assumption | with_reducible exact rng_ld _ _ _ | with_reducible exact rng_yand _ _ | with_reducible exact rng_yor _ _ | with_reducible exact rng_zcmp _ _ | with_reducible exact yand7 _ | with_reducible exact rng_toInt _ | with_reducible exact yarr23 (by omega) | with_reducible exact yarr57 (by omega) | with_reducible exact Or.inl rfl | with_reducible exact Or.inr rfl) (by first | (rw [pcn_s (by omega)]; omega) | exact t0) (by first | assumption | exact p0) (by first | exact PRc.mono (by assumption) (fun i j q => by omega) | exact q0) (by first | assumption | exact f0) (by omega)
        · skip
          have hpl := pcn_le (n := ld M 92 11) (x := x2) (by omega) (by omega)
          have f0 := i5
          have pf0 := i3
          have pc0 := i4
          obtain ⟨c0, hc0⟩ : ∃ c0, ld M3 92 15 = c0 := ⟨_, rfl⟩
          rw [hc0] at pf0 pc0
          refine uX12_fills_27 (by first | omega | assumption | with_reducible exact rng_ld _ _ _ | with_reducible exact rng_yand _ _ | with_reducible exact rng_yor _ _ | with_reducible exact rng_zcmp _ _ | with_reducible exact yand7 _ | with_reducible exact rng_toInt _ | with_reducible exact yarr23 (by omega) | with_reducible exact yarr57 (by omega) | with_reducible exact Or.inl rfl | with_reducible exact Or.inr rfl) ?_
          intro M4 hM4
          replace fM := fr.put fM hM4 (by first | omega | (dsimp only [wSub, wRun, wNar, wFil, wCan, wLst, wCar, wDr, wFl]; done) | (dsimp only [wSub, wRun, wNar, wFil, wCan, wLst, wCar, wDr, wFl]; omega) | (simp [wSub, wRun, wNar, wFil, wCan, wLst, wCar, wDr, wFl]; done) | (simp [wSub, wRun, wNar, wFil, wCan, wLst, wCar, wDr, wFl]; omega))
          have k92_2 := fM.ld (o := 92) (j := 2) (by intro hw; first | omega | (dsimp only [wSub, wRun, wNar, wFil, wCan, wLst, wCar, wDr, wFl] at hw; omega) | (simp [wSub, wRun, wNar, wFil, wCan, wLst, wCar, wDr, wFl] at hw; done) | (simp [wSub, wRun, wNar, wFil, wCan, wLst, wCar, wDr, wFl] at hw; omega))
          have k92_11 := fM.ld (o := 92) (j := 11) (by intro hw; first | omega | (dsimp only [wSub, wRun, wNar, wFil, wCan, wLst, wCar, wDr, wFl] at hw; omega) | (simp [wSub, wRun, wNar, wFil, wCan, wLst, wCar, wDr, wFl] at hw; done) | (simp [wSub, wRun, wNar, wFil, wCan, wLst, wCar, wDr, wFl] at hw; omega))
          have k15a : ld M4 92 15 = ld M3 92 15 := by rw [hM4, ld_putne (by omega)]
          have fs := fr.put f0 hM4 (by omega)
          have e1 := hM4
          rw [hc0] at e1
          refine uX12_fills_37 (by first | omega | assumption | with_reducible exact rng_ld _ _ _ | with_reducible exact rng_yand _ _ | with_reducible exact rng_yor _ _ | with_reducible exact rng_zcmp _ _ | with_reducible exact yand7 _ | with_reducible exact rng_toInt _ | with_reducible exact yarr23 (by omega) | with_reducible exact yarr57 (by omega) | with_reducible exact Or.inl rfl | with_reducible exact Or.inr rfl) ?_
          intro M5 hM5
          replace fM := fr.put fM hM5 (by first | omega | (dsimp only [wSub, wRun, wNar, wFil, wCan, wLst, wCar, wDr, wFl]; done) | (dsimp only [wSub, wRun, wNar, wFil, wCan, wLst, wCar, wDr, wFl]; omega) | (simp [wSub, wRun, wNar, wFil, wCan, wLst, wCar, wDr, wFl]; done) | (simp [wSub, wRun, wNar, wFil, wCan, wLst, wCar, wDr, wFl]; omega))
          have k92_2 := fM.ld (o := 92) (j := 2) (by intro hw; first | omega | (dsimp only [wSub, wRun, wNar, wFil, wCan, wLst, wCar, wDr, wFl] at hw; omega) | (simp [wSub, wRun, wNar, wFil, wCan, wLst, wCar, wDr, wFl] at hw; done) | (simp [wSub, wRun, wNar, wFil, wCan, wLst, wCar, wDr, wFl] at hw; omega))
          have k92_11 := fM.ld (o := 92) (j := 11) (by intro hw; first | omega | (dsimp only [wSub, wRun, wNar, wFil, wCan, wLst, wCar, wDr, wFl] at hw; omega) | (simp [wSub, wRun, wNar, wFil, wCan, wLst, wCar, wDr, wFl] at hw; done) | (simp [wSub, wRun, wNar, wFil, wCan, wLst, wCar, wDr, wFl] at hw; omega))
          have k15b : ld M5 92 15 = ld M4 92 15 := by rw [hM5, ld_putne (by omega)]
          have fs2 := fr.put fs hM5 (by omega)
          have e2 := hM5
          rw [k15a, hc0] at e2
          obtain ⟨pf1, pc1⟩ := PR_step e1 e2 (by omega) (by omega) (by omega) pf0 pc0
          refine uX12_fills_47 ?_
          intro M6 hM6
          replace fM := fr.put fM hM6 (by first | omega | (dsimp only [wSub, wRun, wNar, wFil, wCan, wLst, wCar, wDr, wFl]; done) | (dsimp only [wSub, wRun, wNar, wFil, wCan, wLst, wCar, wDr, wFl]; omega) | (simp [wSub, wRun, wNar, wFil, wCan, wLst, wCar, wDr, wFl]; done) | (simp [wSub, wRun, wNar, wFil, wCan, wLst, wCar, wDr, wFl]; omega))
          have k92_2 := fM.ld (o := 92) (j := 2) (by intro hw; first | omega | (dsimp only [wSub, wRun, wNar, wFil, wCan, wLst, wCar, wDr, wFl] at hw; omega) | (simp [wSub, wRun, wNar, wFil, wCan, wLst, wCar, wDr, wFl] at hw; done) | (simp [wSub, wRun, wNar, wFil, wCan, wLst, wCar, wDr, wFl] at hw; omega))
          have k92_11 := fM.ld (o := 92) (j := 11) (by intro hw; first | omega | (dsimp only [wSub, wRun, wNar, wFil, wCan, wLst, wCar, wDr, wFl] at hw; omega) | (simp [wSub, wRun, wNar, wFil, wCan, wLst, wCar, wDr, wFl] at hw; done) | (simp [wSub, wRun, wNar, wFil, wCan, wLst, wCar, wDr, wFl] at hw; omega))
          have k15c : ld M6 92 15 = ld M5 92 15 + 1 := by rw [hM6]; exact ld_same (by omega)
          have fs3 := fr.put fs2 hM6 (by omega)
          have pf := pf1.pt hM6 (by omega)
          have pc2 := pc1.pt hM6 (by omega)
          rw [show c0 + 1 = ld M6 92 15 by omega] at pf pc2
          refine uX12_fills_57 ?_
          exact ih1 _ _ M6 fM (by first | omega | assumption | with_reducible exact rng_ld _ _ _ | with_reducible exact rng_yand _ _ | with_reducible exact rng_yor _ _ | with_reducible exact rng_zcmp _ _ | with_reducible exact yand7 _ | with_reducible exact rng_toInt _ | with_reducible exact yarr23 (by omega) | with_reducible exact yarr57 (by omega) | with_reducible exact Or.inl rfl | with_reducible exact Or.inr rfl) (by first | omega | assumption | with_reducible exact rng_ld _ _ _ | with_reducible exact rng_yand _ _ | with_reducible exact rng_yor _ _ | with_reducible exact rng_zcmp _ _ | with_reducible exact yand7 _ | with_reducible exact rng_toInt _ | with_reducible exact yarr23 (by omega) | with_reducible exact yarr57 (by omega) | with_reducible exact Or.inl rfl | with_reducible exact Or.inr rfl) (by omega) (by first | exact pf | assumption) (by first | exact PRc.mono pc2 (fun i j q => by omega) | exact PRc.mono (by assumption) (fun i j q => by omega)) (by first | exact fs3 | assumption) (by omega)
      · skip
        clear fM
        intro x2 wx3 M7 fM i0 i1 i2 i3 i4 hm
        have k92_2 := fM.ld (o := 92) (j := 2) (by intro hw; first | omega | (dsimp only [wSub, wRun, wNar, wFil, wCan, wLst, wCar, wDr, wFl] at hw; omega) | (simp [wSub, wRun, wNar, wFil, wCan, wLst, wCar, wDr, wFl] at hw; done) | (simp [wSub, wRun, wNar, wFil, wCan, wLst, wCar, wDr, wFl] at hw; omega))
        have k92_11 := fM.ld (o := 92) (j := 11) (by intro hw; first | omega | (dsimp only [wSub, wRun, wNar, wFil, wCan, wLst, wCar, wDr, wFl] at hw; omega) | (simp [wSub, wRun, wNar, wFil, wCan, wLst, wCar, wDr, wFl] at hw; done) | (simp [wSub, wRun, wNar, wFil, wCan, wLst, wCar, wDr, wFl] at hw; omega))
        refine uX12_fills_76 (by first | omega | assumption | with_reducible exact rng_ld _ _ _ | with_reducible exact rng_yand _ _ | with_reducible exact rng_yor _ _ | with_reducible exact rng_zcmp _ _ | with_reducible exact yand7 _ | with_reducible exact rng_toInt _ | with_reducible exact yarr23 (by omega) | with_reducible exact yarr57 (by omega) | with_reducible exact Or.inl rfl | with_reducible exact Or.inr rfl) (fun hc => ?_) (fun hc => ?_)
        · skip
          have e11 : ld M7 92 11 = ld M 92 11 := by omega
          have hN9 : NN M7 64 (ld M 92 11) := hN.frm (by omega) i4 (fun j h1 h2 hw => by omega)
          have hG9 : DG M7 64 (ld M 92 11) := hG.frm (by omega) i4 (fun j h1 h2 hw => by omega)
          have h93 : ∀ a, 0 ≤ a → a < 8 → 0 ≤ ld M7 93 a ∧ ld M7 93 a < 8 := fun a h1 h2 => by rw [fM.ld (o := 93) (j := a) (by intro hw; dsimp only [wFl] at hw; omega)]; exact hmt a h1 h2
          refine uX12_fills_103 ?_
          refine XC.deep (c12_fully  (d := 0) (by first | omega | assumption | with_reducible exact rng_ld _ _ _ | with_reducible exact rng_yand _ _ | with_reducible exact rng_yor _ _ | with_reducible exact rng_zcmp _ _ | with_reducible exact yand7 _ | with_reducible exact rng_toInt _ | with_reducible exact yarr23 (by omega) | with_reducible exact yarr57 (by omega) | with_reducible exact Or.inl rfl | with_reducible exact Or.inr rfl) (by first | omega | assumption | with_reducible exact rng_ld _ _ _ | with_reducible exact rng_yand _ _ | with_reducible exact rng_yor _ _ | with_reducible exact rng_zcmp _ _ | with_reducible exact yand7 _ | with_reducible exact rng_toInt _ | with_reducible exact yarr23 (by omega) | with_reducible exact yarr57 (by omega) | with_reducible exact Or.inl rfl | with_reducible exact Or.inr rfl) h93 (by omega) (by rw [e11]; exact hN9) (fun v8 M8 fM8 p8a => ?_)) (by omega)
          replace fM := fM.tr fM8 (by intro o j hw; first | omega | exact hw | (dsimp only [wSub, wRun, wNar, wFil, wCan, wLst, wCar, wDr, wFl] at hw; dsimp only [wSub, wRun, wNar, wFil, wCan, wLst, wCar, wDr, wFl]; omega) | (dsimp only [wSub, wRun, wNar, wFil, wCan, wLst, wCar, wDr, wFl]; omega) | (dsimp only [wSub, wRun, wNar, wFil, wCan, wLst, wCar, wDr, wFl] at hw; omega) | (simp [wSub, wRun, wNar, wFil, wCan, wLst, wCar, wDr, wFl] at hw; simp [wSub, wRun, wNar, wFil, wCan, wLst, wCar, wDr, wFl]; omega))
          have k92_2 := fM.ld (o := 92) (j := 2) (by intro hw; first | omega | (dsimp only [wSub, wRun, wNar, wFil, wCan, wLst, wCar, wDr, wFl] at hw; omega) | (simp [wSub, wRun, wNar, wFil, wCan, wLst, wCar, wDr, wFl] at hw; done) | (simp [wSub, wRun, wNar, wFil, wCan, wLst, wCar, wDr, wFl] at hw; omega))
          have k92_11 := fM.ld (o := 92) (j := 11) (by intro hw; first | omega | (dsimp only [wSub, wRun, wNar, wFil, wCan, wLst, wCar, wDr, wFl] at hw; omega) | (simp [wSub, wRun, wNar, wFil, wCan, wLst, wCar, wDr, wFl] at hw; done) | (simp [wSub, wRun, wNar, wFil, wCan, wLst, wCar, wDr, wFl] at hw; omega))
          rw [e11] at p8a
          have fs5 : fr (fun o j => o = 101 ∨ o = 102 ∨ o = 104 ∨ o = 105 ∨ (o = 92 ∧ (j = 15 ∨ j = 17)) ∨ (o = 100 ∧ 64 ≤ j ∧ j < 128)) M M8 := (i4.up (fun o j hw => by omega)).tr fM8 (fun o j hw => by omega)
          have pf5 := i2.fr fM8 (fun j => by omega)
          have pc5 := i3.fr fM8 (fun j => by omega)
          have k15e : ld M8 92 15 = ld M7 92 15 := fM8.ld (by omega)
          rw [← k15e] at pf5 pc5
          have hG5 : DG M8 64 (ld M 92 11) := fun i h1 h2 => by rw [p8a.2 i h1 h2]; exact hG9 i h1 h2
          have hN5 := p8a.nn
          refine uX12_fills_109 ?_
          refine c12_isEmpty  (by first | omega | assumption | with_reducible exact rng_ld _ _ _ | with_reducible exact rng_yand _ _ | with_reducible exact rng_yor _ _ | with_reducible exact rng_zcmp _ _ | with_reducible exact yand7 _ | with_reducible exact rng_toInt _ | with_reducible exact yarr23 (by omega) | with_reducible exact yarr57 (by omega) | with_reducible exact Or.inl rfl | with_reducible exact Or.inr rfl) (by first | omega | assumption | with_reducible exact rng_ld _ _ _ | with_reducible exact rng_yand _ _ | with_reducible exact rng_yor _ _ | with_reducible exact rng_zcmp _ _ | with_reducible exact yand7 _ | with_reducible exact rng_toInt _ | with_reducible exact yarr23 (by omega) | with_reducible exact yarr57 (by omega) | with_reducible exact Or.inl rfl | with_reducible exact Or.inr rfl) (fun v9 p9a p9b => ?_)
          have hEM := p9b
          refine uX12_fills_116 (by first | omega | assumption | with_reducible exact rng_ld _ _ _ | with_reducible exact rng_yand _ _ | with_reducible exact rng_yor _ _ | with_reducible exact rng_zcmp _ _ | with_reducible exact yand7 _ | with_reducible exact rng_toInt _ | with_reducible exact yarr23 (by omega) | with_reducible exact yarr57 (by omega) | with_reducible exact Or.inl rfl | with_reducible exact Or.inr rfl) (fun hc => ?_) (fun hc => ?_)
          · skip
            refine uX12_fills_120 ?_
            intro M10 hM10
            replace fM := fr.put fM hM10 (by first | omega | (dsimp only [wSub, wRun, wNar, wFil, wCan, wLst, wCar, wDr, wFl]; done) | (dsimp only [wSub, wRun, wNar, wFil, wCan, wLst, wCar, wDr, wFl]; omega) | (simp [wSub, wRun, wNar, wFil, wCan, wLst, wCar, wDr, wFl]; done) | (simp [wSub, wRun, wNar, wFil, wCan, wLst, wCar, wDr, wFl]; omega))
            have k92_2 := fM.ld (o := 92) (j := 2) (by intro hw; first | omega | (dsimp only [wSub, wRun, wNar, wFil, wCan, wLst, wCar, wDr, wFl] at hw; omega) | (simp [wSub, wRun, wNar, wFil, wCan, wLst, wCar, wDr, wFl] at hw; done) | (simp [wSub, wRun, wNar, wFil, wCan, wLst, wCar, wDr, wFl] at hw; omega))
            have k92_11 := fM.ld (o := 92) (j := 11) (by intro hw; first | omega | (dsimp only [wSub, wRun, wNar, wFil, wCan, wLst, wCar, wDr, wFl] at hw; omega) | (simp [wSub, wRun, wNar, wFil, wCan, wLst, wCar, wDr, wFl] at hw; done) | (simp [wSub, wRun, wNar, wFil, wCan, wLst, wCar, wDr, wFl] at hw; omega))
            have h120 := hM10
            have pf6 := pf5.pt hM10 (by omega)
            have pc6 := pc5.pt hM10 (by omega)
            have k15f : ld M10 92 15 = ld M8 92 15 := by rw [hM10, ld_putne (by omega)]
            rw [← k15f] at pf6 pc6
            have f120 : fr (fun o j => o = 103) M8 M10 := fr.put fr.rf hM10 rfl
            have h93b : ∀ a, 0 ≤ a → a < 8 → 0 ≤ ld M10 93 a ∧ ld M10 93 a < 8 := fun a h1 h2 => by rw [fM.ld (o := 93) (j := a) (by intro hw; dsimp only [wFl] at hw; omega)]; exact hmt a h1 h2
            have hF : FI M10 0 (ld M 92 11) (ld M10 92 15) := ⟨pf6, pc6, fun q h1 h2 => by
                  have hq : q = 0 := by omega
                  subst hq
                  refine ⟨?_, ?_, ?_, fun p h1 h2 => by omega⟩
                  · exact hN5.frm (by omega) f120 (fun j _ _ hw => by omega)
                  · exact hG5.frm (by omega) f120 (fun j _ _ hw => by omega)
                  · intro i j h1 h2 h3 h4
                    have := hEM (by omega) i j h1 (by omega) h3 (by omega)
                    have e : cel M10 (64 * (0 + 1)) i j = cel _ 64 i j := f120.ld (by omega)
                    rw [e]
                    exact this⟩
            refine fl_main (kk := ld M 92 2) (n := ld M 92 11) p1 (by omega) (by omega) hmk (ld M10 92 15).toNat 0 M10 (by omega) (by omega) hF (by omega) (by omega) rfl h93b (fun _ => by rw [h120, ld_same (by omega)]; omega) (fun M8 w3 w4 w5 h8 => ?_) (fun M8 h8 => ?_) _ _ _
            · refine uX12_fills_129 (by omega) (fun _ => ?_) (fun _ => by omega)
              refine uX12_fills_324 ?_
              exact k _ (fM.tr h8 (by intro o j hw; dsimp only [wDp, wFl] at hw ⊢; omega))
            · exact k _ (fM.tr h8 (by intro o j hw; dsimp only [wDp, wFl] at hw ⊢; omega))
          · skip
            refine uX12_fills_119 ?_
            exact k _ fM 
        · skip
          refine uX12_fills_82 (by first | omega | assumption | with_reducible exact rng_ld _ _ _ | with_reducible exact rng_yand _ _ | with_reducible exact rng_yor _ _ | with_reducible exact rng_zcmp _ _ | with_reducible exact yand7 _ | with_reducible exact rng_toInt _ | with_reducible exact yarr23 (by omega) | with_reducible exact yarr57 (by omega) | with_reducible exact Or.inl rfl | with_reducible exact Or.inr rfl) ?_
          intro M11 hM11
          replace fM := fr.put fM hM11 (by first | omega | (dsimp only [wSub, wRun, wNar, wFil, wCan, wLst, wCar, wDr, wFl]; done) | (dsimp only [wSub, wRun, wNar, wFil, wCan, wLst, wCar, wDr, wFl]; omega) | (simp [wSub, wRun, wNar, wFil, wCan, wLst, wCar, wDr, wFl]; done) | (simp [wSub, wRun, wNar, wFil, wCan, wLst, wCar, wDr, wFl]; omega))
          have k92_2 := fM.ld (o := 92) (j := 2) (by intro hw; first | omega | (dsimp only [wSub, wRun, wNar, wFil, wCan, wLst, wCar, wDr, wFl] at hw; omega) | (simp [wSub, wRun, wNar, wFil, wCan, wLst, wCar, wDr, wFl] at hw; done) | (simp [wSub, wRun, wNar, wFil, wCan, wLst, wCar, wDr, wFl] at hw; omega))
          have k92_11 := fM.ld (o := 92) (j := 11) (by intro hw; first | omega | (dsimp only [wSub, wRun, wNar, wFil, wCan, wLst, wCar, wDr, wFl] at hw; omega) | (simp [wSub, wRun, wNar, wFil, wCan, wLst, wCar, wDr, wFl] at hw; done) | (simp [wSub, wRun, wNar, wFil, wCan, wLst, wCar, wDr, wFl] at hw; omega))
          have pf := i2
          have pc2 := i3
          have fs := i4
          have k15q : ld M11 92 15 = ld M7 92 15 := by rw [hM11, ld_putne (by omega)]
          replace fs := fr.put fs hM11 (by omega)
          replace pf := pf.pt hM11 (by omega)
          replace pc2 := pc2.pt hM11 (by omega)
          rw [← k15q] at pf pc2
          refine uX12_fills_89 (by first | omega | assumption | with_reducible exact rng_ld _ _ _ | with_reducible exact rng_yand _ _ | with_reducible exact rng_yor _ _ | with_reducible exact rng_zcmp _ _ | with_reducible exact yand7 _ | with_reducible exact rng_toInt _ | with_reducible exact yarr23 (by omega) | with_reducible exact yarr57 (by omega) | with_reducible exact Or.inl rfl | with_reducible exact Or.inr rfl) ?_
          intro M12 hM12
          replace fM := fr.put fM hM12 (by first | omega | (dsimp only [wSub, wRun, wNar, wFil, wCan, wLst, wCar, wDr, wFl]; done) | (dsimp only [wSub, wRun, wNar, wFil, wCan, wLst, wCar, wDr, wFl]; omega) | (simp [wSub, wRun, wNar, wFil, wCan, wLst, wCar, wDr, wFl]; done) | (simp [wSub, wRun, wNar, wFil, wCan, wLst, wCar, wDr, wFl]; omega))
          have k92_2 := fM.ld (o := 92) (j := 2) (by intro hw; first | omega | (dsimp only [wSub, wRun, wNar, wFil, wCan, wLst, wCar, wDr, wFl] at hw; omega) | (simp [wSub, wRun, wNar, wFil, wCan, wLst, wCar, wDr, wFl] at hw; done) | (simp [wSub, wRun, wNar, wFil, wCan, wLst, wCar, wDr, wFl] at hw; omega))
          have k92_11 := fM.ld (o := 92) (j := 11) (by intro hw; first | omega | (dsimp only [wSub, wRun, wNar, wFil, wCan, wLst, wCar, wDr, wFl] at hw; omega) | (simp [wSub, wRun, wNar, wFil, wCan, wLst, wCar, wDr, wFl] at hw; done) | (simp [wSub, wRun, wNar, wFil, wCan, wLst, wCar, wDr, wFl] at hw; omega))
          have k15q : ld M12 92 15 = ld M11 92 15 := by rw [hM12, ld_putne (by omega)]
          replace fs := fr.put fs hM12 (by omega)
          replace pf := pf.pt hM12 (by omega)
          replace pc2 := pc2.pt hM12 (by omega)
          rw [← k15q] at pf pc2
          refine uX12_fills_97 ?_
          exact ih2 _ _ M12 fM (by first | omega | assumption | with_reducible exact rng_ld _ _ _ | with_reducible exact rng_yand _ _ | with_reducible exact rng_yor _ _ | with_reducible exact rng_zcmp _ _ | with_reducible exact yand7 _ | with_reducible exact rng_toInt _ | with_reducible exact yarr23 (by omega) | with_reducible exact yarr57 (by omega) | with_reducible exact Or.inl rfl | with_reducible exact Or.inr rfl) (by omega) pf pc2 fs (by omega)
  refine uX12_fills_0 ?_
  intro M13 hM13
  replace fM := fr.put fM hM13 (by first | omega | (dsimp only [wSub, wRun, wNar, wFil, wCan, wLst, wCar, wDr, wFl]; done) | (dsimp only [wSub, wRun, wNar, wFil, wCan, wLst, wCar, wDr, wFl]; omega) | (simp [wSub, wRun, wNar, wFil, wCan, wLst, wCar, wDr, wFl]; done) | (simp [wSub, wRun, wNar, wFil, wCan, wLst, wCar, wDr, wFl]; omega))
  have k92_2 := fM.ld (o := 92) (j := 2) (by intro hw; first | omega | (dsimp only [wSub, wRun, wNar, wFil, wCan, wLst, wCar, wDr, wFl] at hw; omega) | (simp [wSub, wRun, wNar, wFil, wCan, wLst, wCar, wDr, wFl] at hw; done) | (simp [wSub, wRun, wNar, wFil, wCan, wLst, wCar, wDr, wFl] at hw; omega))
  have k92_11 := fM.ld (o := 92) (j := 11) (by intro hw; first | omega | (dsimp only [wSub, wRun, wNar, wFil, wCan, wLst, wCar, wDr, wFl] at hw; omega) | (simp [wSub, wRun, wNar, wFil, wCan, wLst, wCar, wDr, wFl] at hw; done) | (simp [wSub, wRun, wNar, wFil, wCan, wLst, wCar, wDr, wFl] at hw; omega))
  have f0 : fr (fun o j => o = 101 ∨ o = 102 ∨ (o = 92 ∧ j = 15)) M M13 := fr.put fr.rf hM13 (by omega)
  have t0 : ld M13 92 15 = pcn (ld M 92 11) (0 : Int).toNat := by rw [hM13, ld_same (by omega)]; rfl
  have t00 : ld M13 92 15 = 0 := t0
  have p0 : PRf M13 (ld M13 92 15) (ld M 92 11) := fun p h1 h2 => by omega
  have q0 : PRc M13 (ld M13 92 15) (fun i j => 0 ≤ i ∧ i < j ∧ j < ld M 92 11 ∧ i < 0) := fun i j q => by omega
  refine uX12_fills_5 ?_
  exact (go 1000000).1 _ _ M13 fM (by first | omega | assumption | with_reducible exact rng_ld _ _ _ | with_reducible exact rng_yand _ _ | with_reducible exact rng_yor _ _ | with_reducible exact rng_zcmp _ _ | with_reducible exact yand7 _ | with_reducible exact rng_toInt _ | with_reducible exact yarr23 (by omega) | with_reducible exact yarr57 (by omega) | with_reducible exact Or.inl rfl | with_reducible exact Or.inr rfl) (by first | (rw [pcn_s (by omega)]; omega) | exact t0) (by first | assumption | exact p0) (by first | exact PRc.mono (by assumption) (fun i j q => by omega) | exact q0) (by first | assumption | exact f0) (by omega)
