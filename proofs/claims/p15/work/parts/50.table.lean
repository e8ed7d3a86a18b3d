/-! CLASS: THE TABLE -/
theorem c9_allT {d : Nat} {Q : Int → yM → Prop} {M : yM} {x0 : Nat} (hT : tabSh x0) (hk : 0 ≤ ld M x0 0 ∧ ld M x0 0 ≤ 8) (k : Q (al (ld M x0 0)) M) : XCi d 60 [.inr (.inr x0)] M Q := by
  suffices hw : XW kX9_all d (some .int) (wQi Q) 0 [some (.inr (.inr x0))] [] M by
    exact XC.ofW (Mm := (yX9_all, cX9_all, 1, (some .int), 10, kX9_all)) rfl (rcv_ok hT.1) rfl rfl hw
  refine x_iconst 1 rfl (by decide) ?_
  refine x_aload_n rfl rfl ?_
  refine x_getI rfl hT.1 rfl ?_
  refine x_ishl rfl ?_
  refine x_iconst 1 rfl (by decide) ?_
  refine x_isub rfl ?_
  refine x_ireturn rfl ?_
  rw [show ld M x0 ((0 : Nat) : Int) = ld M x0 0 from rfl, al_ok hk]
  exact k
theorem low_8 {x : Int} (h : 1 ≤ x ∧ x < 256) : 0 ≤ low x ∧ low x < 8 := by
  obtain ⟨n, rfl⟩ := Int.eq_ofNat_of_zero_le (show 0 ≤ x by omega)
  have := low_k n (by omega) (by omega)
  exact ⟨this.1, this.2.1⟩
theorem low_4 {x : Int} (h : 1 ≤ x ∧ x < 16) : 0 ≤ low x ∧ low x < 4 := by
  obtain ⟨n, rfl⟩ := Int.eq_ofNat_of_zero_le (show 0 ≤ x by omega)
  have := low_k n (by omega) (by omega)
  exact ⟨this.1, this.2.2 (by omega)⟩
def T8 (M : yM) (o : Nat) : Prop := ∀ a, 0 ≤ a → a < 8 → 0 ≤ ld M o a ∧ ld M o a < 8
theorem T8.pt {M M' : yM} {o o' : Nat} {k v : Int} (h : T8 M o) (e : M' = put M o' k v) (hv : o' = o → 0 ≤ v ∧ v < 8) : T8 M' o := fun j h1 h2 => by
  subst e
  by_cases q : o' = o
  · subst q
    rw [ld_put (by have := hv rfl; omega)]
    split
    · exact hv rfl
    · exact h j h1 h2
  · rw [ld_putne (Or.inl (fun e => q e.symm))]
    exact h j h1 h2
theorem T8.fr {W : Nat → Int → Prop} {M M' : yM} {o : Nat} (h : T8 M o) (f : fr W M M') (hw : ∀ j, 0 ≤ j → j < 8 → ¬ W o j) : T8 M' o := fun j h1 h2 => by
  rw [f.ld (hw j h1 h2)]
  exact h j h1 h2
theorem yand_comm (a b : Int) : yand a b = yand b a := bt_ext (rng_yand _ _) (rng_yand _ _) (fun i _ => by rw [bt_yand, bt_yand, Bool.and_comm])
/-- the sets of a table below n, turned -/
def TSl (M : yM) (t : Nat) (n : Int) : Prop := ∀ s, 0 ≤ s → s < n → ld M (t + 3) s = tOf (ld M (t + 1)) s (ld M t 0).toNat
def TS (M : yM) : Prop := TSl M 1 (al (ld M 1 0) + 1)
def Z3 (M : yM) : Prop := ld M 4 0 = 0 ∧ ld M 10 0 = 0 ∧ ld M 16 0 = 0
theorem T8.n {M : yM} {o : Nat} (h : T8 M o) : ∀ a, 0 ≤ a → a < 8 → 0 ≤ ld M o a ∧ ld M o a < 8 := h
/-- the turns behind a turn of a and b -/
def mt (f : Int → Int) (a b j : Int) : Int := if j = b then a else if j = a then b else if j = f a ∨ j = f b then j else f j
theorem mt_8 {f : Int → Int} {a b j : Int} (ha : 0 ≤ a ∧ a < 8) (hb : 0 ≤ b ∧ b < 8) (hj : 0 ≤ j ∧ j < 8) (hf : 0 ≤ f j ∧ f j < 8) : 0 ≤ mt f a b j ∧ mt f a b j < 8 := by
  unfold mt
  split
  · exact ha
  · split
    · exact hb
    · split
      · exact hj
      · exact hf
abbrev mtx (f : Int → Int) (a b j : Int) : Int := mt f a b j
theorem iv_mt {f : Int → Int} {k a b : Int} (h : IV f k) (ha : 0 ≤ a ∧ a < k) (hb : 0 ≤ b ∧ b < k) : IV (fun j => mt f a b j) k := fun j h1 h2 => by
  show (0 ≤ mtx f a b j ∧ mtx f a b j < k) ∧ mtx f a b (mtx f a b j) = j
  have qa := h a ha.1 ha.2
  have qb := h b hb.1 hb.2
  have qj := h j h1 h2
  by_cases e1 : j = b
  · have m1 : mtx f a b j = a := by unfold mtx mt; rw [if_pos e1]
    have m2 : mtx f a b a = b := by
      unfold mtx mt
      split
      · assumption
      · rw [if_pos rfl]
    rw [m1, m2]
    omega
  · by_cases e2 : j = a
    · have m1 : mtx f a b j = b := by unfold mtx mt; rw [if_neg e1, if_pos e2]
      have m2 : mtx f a b b = a := by unfold mtx mt; rw [if_pos rfl]
      rw [m1, m2]
      omega
    · by_cases e3 : j = f a ∨ j = f b
      · have m1 : mtx f a b j = j := by unfold mtx mt; rw [if_neg e1, if_neg e2, if_pos e3]
        rw [m1, m1]
        omega
      · have m1 : mtx f a b j = f j := by unfold mtx mt; rw [if_neg e1, if_neg e2, if_neg e3]
        have n1 : f j ≠ b := fun e => e3 (Or.inr (by rw [← e]; exact qj.2.symm))
        have n2 : f j ≠ a := fun e => e3 (Or.inl (by rw [← e]; exact qj.2.symm))
        have n3 : f j ≠ f a := fun e => e2 (by rw [← qj.2, e, qa.2])
        have n4 : f j ≠ f b := fun e => e1 (by rw [← qj.2, e, qb.2])
        have m2 : mtx f a b (f j) = j := by
          unfold mtx mt
          rw [if_neg n1, if_neg n2, if_neg (fun q => q.elim n3 n4)]
          exact qj.2
        rw [m1, m2]
        omega
theorem mt_z {f : Int → Int} {k a b : Int} (h : IV f k) (h0 : f 0 = 0) (ha : 1 ≤ a ∧ a < k) (hb : 1 ≤ b ∧ b < k) : mt f a b 0 = 0 := by
  unfold mt
  rw [if_neg (by omega), if_neg (by omega)]
  split
  · rfl
  · exact h0
/-- which pairs of kinds have been told theirs -/
abbrev tl (a b y k i j : Int) : Prop := i = 0 ∧ j < a ∨ j = 0 ∧ i < a ∨ 1 ≤ i ∧ i < b ∧ 1 ≤ j ∧ j < k ∨ 1 ≤ i ∧ i = b ∧ 1 ≤ j ∧ j < y
def FTr (M : yM) (f : Int → Int) (k a b y : Int) : Prop := ∀ i j : Int, 0 ≤ i → i < 8 → 0 ≤ j → j < 8 → tl a b y k i j → ld M 3 (8 * i + j) = tv f k i j
theorem FTr.s {M M' : yM} {f : Int → Int} {k a b y i0 j0 v a' b' y' : Int} (h : FTr M f k a b y) (e : M' = put M 3 (8 * i0 + j0) v) (hv : yR v) (hj0 : 0 ≤ j0 ∧ j0 < 8) (ev : v = tv f k i0 j0) (hc : ∀ i j : Int, 0 ≤ i → i < 8 → 0 ≤ j → j < 8 → tl a' b' y' k i j → tl a b y k i j ∨ (i = i0 ∧ j = j0)) : FTr M' f k a' b' y' := fun i j h1 h2 h3 h4 h5 => by
  rw [e, ld_put hv]
  by_cases q : i = i0 ∧ j = j0
  · rw [if_pos ⟨rfl, by rw [q.1, q.2]⟩, ev, q.1, q.2]
  · rw [if_neg (fun w => q (by omega))]
    exact h i j h1 h2 h3 h4 ((hc i j h1 h2 h3 h4 h5).resolve_right q)
theorem FTr.up {M : yM} {f : Int → Int} {k a b y a' b' y' : Int} (h : FTr M f k a b y) (hc : ∀ i j : Int, 0 ≤ i → i < 8 → 0 ≤ j → j < 8 → tl a' b' y' k i j → tl a b y k i j) : FTr M f k a' b' y' := fun i j h1 h2 h3 h4 h5 => h i j h1 h2 h3 h4 (hc i j h1 h2 h3 h4 h5)
def OPN (M : yM) : Prop := ∀ a b : Int, 0 ≤ a → a < ld M 1 0 → 0 ≤ b → b < ld M 1 0 → ld M 3 (8 * a + b) = tv (ld M 2) (ld M 1 0) a b
theorem OPN.fr {W : Nat → Int → Prop} {M M' : yM} (h : OPN M) (f : fr W M M') (h1 : ¬ W 1 0) (h2 : ∀ j, ¬ W 2 j) (h3 : ∀ j, ¬ W 3 j) : OPN M' := fun a b a1 a2 b1 b2 => by
  have e2 : ld M' 2 = ld M 2 := funext fun j => f.ld (h2 j)
  have e1 : ld M' 1 0 = ld M 1 0 := f.ld h1
  rw [e1] at a2 b2
  rw [e1, e2, f.ld (h3 _)]
  exact h a b a1 a2 b1 b2
theorem cJ7_fillv {d : Nat} {Q : yM → Prop} {M : yM} {x0 : Nat} {x1 : Int} {n : Nat} (hA : arrSh x0 n) (hv : -2147483648 ≤ x1 ∧ x1 < 2147483648) (k : ∀ (M' : yM), fr (fun o _ => o = x0) M M' → (∀ j, 0 ≤ j → j < (n : Int) → ld M' x0 j = x1) → Q M') : XCv d 181 [.inr (.inr x0), .inl x1] M Q := by
  refine eJ7_fill_53178 ?_
  have fM : fr (fun o _ => o = x0) M M := fr.rf
  have hA2 := hA.2
  have go : ∀ N : Nat, (∀ (x2 : Int) (x3 : Int) (M9 : yM), fr (fun o _ => o = x0) M M9 → (0 ≤ x2 ∧ x2 ≤ x3) → (x3 = (n : Int)) → (∀ j, 0 ≤ j → j < x2 → ld M9 x0 j = x1) → (x3 - x2 < (N : Int)) → XW kJ7_fill_53178 d none (wQv Q) 5 [some (.inr (.inr x0)), some (.inl x1), some (.inl x2), some (.inl x3)] [] M9) := by
    intro N
    induction N with
    | zero => intros; exfalso; omega
    | succ N ih =>
      have ih0 := ih
      clear fM
      intro x2 x3 M1 fM i0 i1 i2 hm
      refine uJ7_fill_53178_5 (by first | omega | assumption | with_reducible exact rng_ld _ _ _ | with_reducible exact rng_yand _ _ | with_reducible exact rng_yor _ _ | with_reducible exact rng_zcmp _ _ | with_reducible exact yand7 _ | with_reducible exact rng_toInt _ | with_reducible exact yarr23 (by omega) | with_reducible exact yarr57 (by omega) | with_reducible exact Or.inl rfl | with_reducible exact Or.inr rfl) (by first | omega | assumption | with_reducible exact rng_ld _ _ _ | with_reducible exact rng_yand _ _ | with_reducible exact rng_yor _ _ | with_reducible exact rng_zcmp _ _ | with_reducible exact yand7 _ | with_reducible exact rng_toInt _ | with_reducible exact yarr23 (by omega) | with_reducible exact yarr57 (by omega) | with_reducible exact Or.inl rfl | with_reducible exact Or.inr rfl) (fun hc => ?_) (fun hc => ?_)
      · skip
        refine uJ7_fill_53178_20 ?_
        exact k _ fM (fun j h1 h2 => i2 j h1 (by omega))
      · skip
        refine uJ7_fill_53178_10 hA (by first | omega | assumption | with_reducible exact rng_ld _ _ _ | with_reducible exact rng_yand _ _ | with_reducible exact rng_yor _ _ | with_reducible exact rng_zcmp _ _ | with_reducible exact yand7 _ | with_reducible exact rng_toInt _ | with_reducible exact yarr23 (by omega) | with_reducible exact yarr57 (by omega) | with_reducible exact Or.inl rfl | with_reducible exact Or.inr rfl) ?_
        intro M2 hM2
        replace fM := fr.put fM hM2 (by first | omega | (dsimp only [wSub, wRun, wNar, wFil, wCan, wLst, wCar, wDr, wFl, wMq, wRd, wRx, wCr]; done) | (dsimp only [wSub, wRun, wNar, wFil, wCan, wLst, wCar, wDr, wFl, wMq, wRd, wRx, wCr]; omega) | (simp [wSub, wRun, wNar, wFil, wCan, wLst, wCar, wDr, wFl, wMq, wRd, wRx, wCr]; done) | (simp [wSub, wRun, wNar, wFil, wCan, wLst, wCar, wDr, wFl, wMq, wRd, wRx, wCr]; omega))
        have t10 : ∀ j, 0 ≤ j → j < x2 + 1 → ld M2 x0 j = x1 := fun j h1 h2 => by
          rw [hM2, ld_put hv]
          split
          · rfl
          · next q => exact i2 j h1 (by have : j ≠ x2 := fun e => q ⟨rfl, e⟩; omega)
        refine uJ7_fill_53178_14 ?_
        exact ih0 _ _ M2 fM (by first | omega | assumption | with_reducible exact rng_ld _ _ _ | with_reducible exact rng_yand _ _ | with_reducible exact rng_yor _ _ | with_reducible exact rng_zcmp _ _ | with_reducible exact yand7 _ | with_reducible exact rng_toInt _ | with_reducible exact yarr23 (by omega) | with_reducible exact yarr57 (by omega) | with_reducible exact Or.inl rfl | with_reducible exact Or.inr rfl) (by first | omega | assumption | with_reducible exact rng_ld _ _ _ | with_reducible exact rng_yand _ _ | with_reducible exact rng_yor _ _ | with_reducible exact rng_zcmp _ _ | with_reducible exact yand7 _ | with_reducible exact rng_toInt _ | with_reducible exact yarr23 (by omega) | with_reducible exact yarr57 (by omega) | with_reducible exact Or.inl rfl | with_reducible exact Or.inr rfl) (by first | exact t10 | exact (fun j h1 h2 => absurd h2 (by omega))) (by omega)
  refine uJ7_fill_53178_0 hA ?_
  exact (go 1000000) _ _ M fM (by first | omega | assumption | with_reducible exact rng_ld _ _ _ | with_reducible exact rng_yand _ _ | with_reducible exact rng_yor _ _ | with_reducible exact rng_zcmp _ _ | with_reducible exact yand7 _ | with_reducible exact rng_toInt _ | with_reducible exact yarr23 (by omega) | with_reducible exact yarr57 (by omega) | with_reducible exact Or.inl rfl | with_reducible exact Or.inr rfl) (by first | omega | assumption | with_reducible exact rng_ld _ _ _ | with_reducible exact rng_yand _ _ | with_reducible exact rng_yor _ _ | with_reducible exact rng_zcmp _ _ | with_reducible exact yand7 _ | with_reducible exact rng_toInt _ | with_reducible exact yarr23 (by omega) | with_reducible exact yarr57 (by omega) | with_reducible exact Or.inl rfl | with_reducible exact Or.inr rfl) (by first | exact t10 | exact (fun j h1 h2 => absurd h2 (by omega))) (by omega)
theorem c9_prepareHalves {d : Nat} {Q : yM → Prop} {M : yM} {x0 : Nat} {x1 : Int} {x2 : Int} (hT : tabSh x0)  (h1 : 0 ≤ x1 ∧ x1 ≤ 1) (h2 : 0 ≤ x2 ∧ x2 ≤ 1) (k : ∀ (M' : yM), fr (fun o j => o = x0 + 4 ∧ 512 * x1 + 256 * x2 + 17 ≤ j ∧ j < 512 * x1 + 256 * x2 + 256 ∧ j % 16 ≠ 0) M M' → (HJl M' x0 x1 x2) → Q M') : XCv (d + 2) 69 [.inr (.inr x0), .inl x1, .inl x2] M Q := by
  refine eX9_prepareHalves hT ?_
  have fM : fr (fun o j => o = x0 + 4 ∧ 512 * x1 + 256 * x2 + 17 ≤ j ∧ j < 512 * x1 + 256 * x2 + 256 ∧ j % 16 ≠ 0) M M := fr.rf
  have a1 := hT.2.1
  have a2 := hT.2.2.1
  have a3 := hT.2.2.2.1
  have a4 := hT.2.2.2.2.1
  have a5 := hT.2.2.2.2.2
  have go : ∀ N : Nat, (∀ (x3 : Int) (x4 : Int) (wx5 : Option yV) (wx6 : Option yV) (wx7 : Option yV) (wx8 : Option yV) (M9 : yM), fr (fun o j => o = x0 + 4 ∧ 512 * x1 + 256 * x2 + 17 ≤ j ∧ j < 512 * x1 + 256 * x2 + 256 ∧ j % 16 ≠ 0) M M9 → (x3 = 512 * x1 + 256 * x2) → (1 ≤ x4 ∧ x4 ≤ 16) → (HJp M9 x0 x1 x2 x4 1) → ((16 - x4) * 40 + 20 < (N : Int)) → XW kX9_prepareHalves (d + 2) none (wQv Q) 15 [some (.inr (.inr x0)), some (.inl x1), some (.inl x2), some (.inl x3), some (.inl x4), wx5, wx6, wx7, wx8] [] M9) ∧ (∀ (x3 : Int) (x4 : Int) (x5 : Int) (wx6 : Option yV) (wx7 : Option yV) (wx8 : Option yV) (M9 : yM), fr (fun o j => o = x0 + 4 ∧ 512 * x1 + 256 * x2 + 17 ≤ j ∧ j < 512 * x1 + 256 * x2 + 256 ∧ j % 16 ≠ 0) M M9 → (x3 = 512 * x1 + 256 * x2) → (1 ≤ x4 ∧ x4 < 16) → (1 ≤ x5 ∧ x5 ≤ 16) → (HJp M9 x0 x1 x2 x4 x5) → ((16 - x4) * 40 + 16 - x5 < (N : Int)) → XW kX9_prepareHalves (d + 2) none (wQv Q) 25 [some (.inr (.inr x0)), some (.inl x1), some (.inl x2), some (.inl x3), some (.inl x4), some (.inl x5), wx6, wx7, wx8] [] M9) := by
    intro N
    induction N with
    | zero => refine ⟨?_, ?_⟩ <;> (intros; exfalso; omega)
    | succ N ih =>
      obtain ⟨ih0, ih1⟩ := ih
      refine ⟨?_, ?_⟩
      · skip
        clear fM
        intro x3 x4 wx5 wx6 wx7 wx8 M1 fM i0 i1 i2 hm
        refine uX9_prepareHalves_15 (by first | omega | assumption | with_reducible exact rng_ld _ _ _ | with_reducible exact rng_yand _ _ | with_reducible exact rng_yor _ _ | with_reducible exact rng_zcmp _ _ | with_reducible exact yand7 _ | with_reducible exact rng_toInt _ | with_reducible exact yarr23 (by omega) | with_reducible exact yarr57 (by omega) | with_reducible exact Or.inl rfl | with_reducible exact Or.inr rfl) (fun hc => ?_) (fun hc => ?_)
        · skip
          refine uX9_prepareHalves_196 ?_
          exact k _ fM (i2.end (by omega))
        · skip
          refine uX9_prepareHalves_22 ?_
          exact ih1 _ _ _ _ _ _ M1 fM (by first | omega | assumption | with_reducible exact rng_ld _ _ _ | with_reducible exact rng_yand _ _ | with_reducible exact rng_yor _ _ | with_reducible exact rng_zcmp _ _ | with_reducible exact yand7 _ | with_reducible exact rng_toInt _ | with_reducible exact yarr23 (by omega) | with_reducible exact yarr57 (by omega) | with_reducible exact Or.inl rfl | with_reducible exact Or.inr rfl) (by first | omega | assumption | with_reducible exact rng_ld _ _ _ | with_reducible exact rng_yand _ _ | with_reducible exact rng_yor _ _ | with_reducible exact rng_zcmp _ _ | with_reducible exact yand7 _ | with_reducible exact rng_toInt _ | with_reducible exact yarr23 (by omega) | with_reducible exact yarr57 (by omega) | with_reducible exact Or.inl rfl | with_reducible exact Or.inr rfl) (by first | omega | assumption | with_reducible exact rng_ld _ _ _ | with_reducible exact rng_yand _ _ | with_reducible exact rng_yor _ _ | with_reducible exact rng_zcmp _ _ | with_reducible exact yand7 _ | with_reducible exact rng_toInt _ | with_reducible exact yarr23 (by omega) | with_reducible exact yarr57 (by omega) | with_reducible exact Or.inl rfl | with_reducible exact Or.inr rfl) (by first | exact t167 | exact i2) (by omega)
      · skip
        clear fM
        intro x3 x4 x5 wx6 wx7 wx8 M2 fM i0 i1 i2 i3 hm
        refine uX9_prepareHalves_25 (by first | omega | assumption | with_reducible exact rng_ld _ _ _ | with_reducible exact rng_yand _ _ | with_reducible exact rng_yor _ _ | with_reducible exact rng_zcmp _ _ | with_reducible exact yand7 _ | with_reducible exact rng_toInt _ | with_reducible exact yarr23 (by omega) | with_reducible exact yarr57 (by omega) | with_reducible exact Or.inl rfl | with_reducible exact Or.inr rfl) (fun hc => ?_) (fun hc => ?_)
        · skip
          refine uX9_prepareHalves_190 ?_
          exact ih0 _ _ _ _ _ _ M2 fM (by first | omega | assumption | with_reducible exact rng_ld _ _ _ | with_reducible exact rng_yand _ _ | with_reducible exact rng_yor _ _ | with_reducible exact rng_zcmp _ _ | with_reducible exact yand7 _ | with_reducible exact rng_toInt _ | with_reducible exact yarr23 (by omega) | with_reducible exact yarr57 (by omega) | with_reducible exact Or.inl rfl | with_reducible exact Or.inr rfl) (by first | omega | assumption | with_reducible exact rng_ld _ _ _ | with_reducible exact rng_yand _ _ | with_reducible exact rng_yor _ _ | with_reducible exact rng_zcmp _ _ | with_reducible exact yand7 _ | with_reducible exact rng_toInt _ | with_reducible exact yarr23 (by omega) | with_reducible exact yarr57 (by omega) | with_reducible exact Or.inl rfl | with_reducible exact Or.inr rfl) (by first | exact i3.row (by omega) | exact (fun l r a1 a2 a3 a4 a5 => absurd a5 (by omega))) (by omega)
        · skip
          subst i0
          have g4 : 0 ≤ yand x4 (x4 - 1) ∧ yand x4 (x4 - 1) ≤ x4 := yand_le (by omega)
          have g5 : 0 ≤ yand x5 (x5 - 1) ∧ yand x5 (x5 - 1) ≤ x5 := yand_le (by omega)
          have g6 := low_4 (x := x4) (by omega)
          have g7 := low_4 (x := x5) (by omega)
          have g8 : 0 ≤ yand x4 (x4 - 1) ∧ yand x4 (x4 - 1) ≤ x4 - 1 := by rw [yand_comm]; exact yand_le (by omega)
          have g9 : 0 ≤ yand x5 (x5 - 1) ∧ yand x5 (x5 - 1) ≤ x5 - 1 := by rw [yand_comm]; exact yand_le (by omega)
          refine uX9_prepareHalves_32 (fun hc => ?_) (fun hc => ?_)
          · skip
            refine uX9_prepareHalves_94 (by first | omega | assumption | with_reducible exact rng_ld _ _ _ | with_reducible exact rng_yand _ _ | with_reducible exact rng_yor _ _ | with_reducible exact rng_zcmp _ _ | with_reducible exact yand7 _ | with_reducible exact rng_toInt _ | with_reducible exact yarr23 (by omega) | with_reducible exact yarr57 (by omega) | with_reducible exact Or.inl rfl | with_reducible exact Or.inr rfl) (fun hc => ?_) (fun hc => ?_)
            · skip
              have hb := hj_c (M := M2) (x0 := x0) (lh := x1) (rh := x2) (l := x4) (r := x5) (by omega) (by omega) (by assumption) hc g6 g7
              refine uX9_prepareHalves_138 (by first | omega | assumption | with_reducible exact rng_ld _ _ _ | with_reducible exact rng_yand _ _ | with_reducible exact rng_yor _ _ | with_reducible exact rng_zcmp _ _ | with_reducible exact yand7 _ | with_reducible exact rng_toInt _ | with_reducible exact yarr23 (by omega) | with_reducible exact yarr57 (by omega) | with_reducible exact Or.inl rfl | with_reducible exact Or.inr rfl) ?_
              refine XC.deep (c11_low  (d := 0)  ?_) (by omega)
              refine uX9_prepareHalves_152 ?_
              refine XC.deep (c11_low  (d := 0)  ?_) (by omega)
              refine uX9_prepareHalves_163 (by first | assumption | exact ⟨rfl, Nat.le_of_ble_eq_true rfl⟩ | with_reducible exact yarr23 (by omega) | with_reducible exact yarr57 (by omega)) (by first | omega | assumption | with_reducible exact rng_ld _ _ _ | with_reducible exact rng_yand _ _ | with_reducible exact rng_yor _ _ | with_reducible exact rng_zcmp _ _ | with_reducible exact yand7 _ | with_reducible exact rng_toInt _ | with_reducible exact yarr23 (by omega) | with_reducible exact yarr57 (by omega) | with_reducible exact Or.inl rfl | with_reducible exact Or.inr rfl) ?_
              refine uX9_prepareHalves_167 (by first | omega | assumption | with_reducible exact rng_ld _ _ _ | with_reducible exact rng_yand _ _ | with_reducible exact rng_yor _ _ | with_reducible exact rng_zcmp _ _ | with_reducible exact yand7 _ | with_reducible exact rng_toInt _ | with_reducible exact yarr23 (by omega) | with_reducible exact yarr57 (by omega) | with_reducible exact Or.inl rfl | with_reducible exact Or.inr rfl) (by first | omega | assumption | with_reducible exact rng_ld _ _ _ | with_reducible exact rng_yand _ _ | with_reducible exact rng_yor _ _ | with_reducible exact rng_zcmp _ _ | with_reducible exact yand7 _ | with_reducible exact rng_toInt _ | with_reducible exact yarr23 (by omega) | with_reducible exact yarr57 (by omega) | with_reducible exact Or.inl rfl | with_reducible exact Or.inr rfl) ?_
              intro M5 hM5
              replace fM := fr.put fM hM5 (by first | omega | (dsimp only [wSub, wRun, wNar, wFil, wCan, wLst, wCar, wDr, wFl, wMq, wRd, wRx, wCr]; done) | (dsimp only [wSub, wRun, wNar, wFil, wCan, wLst, wCar, wDr, wFl, wMq, wRd, wRx, wCr]; omega) | (simp [wSub, wRun, wNar, wFil, wCan, wLst, wCar, wDr, wFl, wMq, wRd, wRx, wCr]; done) | (simp [wSub, wRun, wNar, wFil, wCan, wLst, wCar, wDr, wFl, wMq, wRd, wRx, wCr]; omega))
              have t167 : HJp M5 x0 x1 x2 x4 (x5 + 1) := i3.s (by omega) (by omega) hM5 (by first | with_reducible exact rng_yor _ _ | with_reducible exact rng_ld _ _ _) hb
              refine uX9_prepareHalves_184 ?_
              exact ih1 _ _ _ _ _ _ M5 fM (by first | omega | assumption | with_reducible exact rng_ld _ _ _ | with_reducible exact rng_yand _ _ | with_reducible exact rng_yor _ _ | with_reducible exact rng_zcmp _ _ | with_reducible exact yand7 _ | with_reducible exact rng_toInt _ | with_reducible exact yarr23 (by omega) | with_reducible exact yarr57 (by omega) | with_reducible exact Or.inl rfl | with_reducible exact Or.inr rfl) (by first | omega | assumption | with_reducible exact rng_ld _ _ _ | with_reducible exact rng_yand _ _ | with_reducible exact rng_yor _ _ | with_reducible exact rng_zcmp _ _ | with_reducible exact yand7 _ | with_reducible exact rng_toInt _ | with_reducible exact yarr23 (by omega) | with_reducible exact yarr57 (by omega) | with_reducible exact Or.inl rfl | with_reducible exact Or.inr rfl) (by first | omega | assumption | with_reducible exact rng_ld _ _ _ | with_reducible exact rng_yand _ _ | with_reducible exact rng_yor _ _ | with_reducible exact rng_zcmp _ _ | with_reducible exact yand7 _ | with_reducible exact rng_toInt _ | with_reducible exact yarr23 (by omega) | with_reducible exact yarr57 (by omega) | with_reducible exact Or.inl rfl | with_reducible exact Or.inr rfl) (by first | exact t167 | exact i2) (by omega)
            · skip
              have hb := hj_b i3 (by omega) (by omega) hc g9
              refine uX9_prepareHalves_99 (by first | omega | assumption | with_reducible exact rng_ld _ _ _ | with_reducible exact rng_yand _ _ | with_reducible exact rng_yor _ _ | with_reducible exact rng_zcmp _ _ | with_reducible exact yand7 _ | with_reducible exact rng_toInt _ | with_reducible exact yarr23 (by omega) | with_reducible exact yarr57 (by omega) | with_reducible exact Or.inl rfl | with_reducible exact Or.inr rfl) (by first | omega | assumption | with_reducible exact rng_ld _ _ _ | with_reducible exact rng_yand _ _ | with_reducible exact rng_yor _ _ | with_reducible exact rng_zcmp _ _ | with_reducible exact yand7 _ | with_reducible exact rng_toInt _ | with_reducible exact yarr23 (by omega) | with_reducible exact yarr57 (by omega) | with_reducible exact Or.inl rfl | with_reducible exact Or.inr rfl) (by first | omega | assumption | with_reducible exact rng_ld _ _ _ | with_reducible exact rng_yand _ _ | with_reducible exact rng_yor _ _ | with_reducible exact rng_zcmp _ _ | with_reducible exact yand7 _ | with_reducible exact rng_toInt _ | with_reducible exact yarr23 (by omega) | with_reducible exact yarr57 (by omega) | with_reducible exact Or.inl rfl | with_reducible exact Or.inr rfl) ?_
              refine uX9_prepareHalves_167 (by first | omega | assumption | with_reducible exact rng_ld _ _ _ | with_reducible exact rng_yand _ _ | with_reducible exact rng_yor _ _ | with_reducible exact rng_zcmp _ _ | with_reducible exact yand7 _ | with_reducible exact rng_toInt _ | with_reducible exact yarr23 (by omega) | with_reducible exact yarr57 (by omega) | with_reducible exact Or.inl rfl | with_reducible exact Or.inr rfl) (by first | omega | assumption | with_reducible exact rng_ld _ _ _ | with_reducible exact rng_yand _ _ | with_reducible exact rng_yor _ _ | with_reducible exact rng_zcmp _ _ | with_reducible exact yand7 _ | with_reducible exact rng_toInt _ | with_reducible exact yarr23 (by omega) | with_reducible exact yarr57 (by omega) | with_reducible exact Or.inl rfl | with_reducible exact Or.inr rfl) ?_
              intro M6 hM6
              replace fM := fr.put fM hM6 (by first | omega | (dsimp only [wSub, wRun, wNar, wFil, wCan, wLst, wCar, wDr, wFl, wMq, wRd, wRx, wCr]; done) | (dsimp only [wSub, wRun, wNar, wFil, wCan, wLst, wCar, wDr, wFl, wMq, wRd, wRx, wCr]; omega) | (simp [wSub, wRun, wNar, wFil, wCan, wLst, wCar, wDr, wFl, wMq, wRd, wRx, wCr]; done) | (simp [wSub, wRun, wNar, wFil, wCan, wLst, wCar, wDr, wFl, wMq, wRd, wRx, wCr]; omega))
              have t167 : HJp M6 x0 x1 x2 x4 (x5 + 1) := i3.s (by omega) (by omega) hM6 (by first | with_reducible exact rng_yor _ _ | with_reducible exact rng_ld _ _ _) hb
              refine uX9_prepareHalves_184 ?_
              exact ih1 _ _ _ _ _ _ M6 fM (by first | omega | assumption | with_reducible exact rng_ld _ _ _ | with_reducible exact rng_yand _ _ | with_reducible exact rng_yor _ _ | with_reducible exact rng_zcmp _ _ | with_reducible exact yand7 _ | with_reducible exact rng_toInt _ | with_reducible exact yarr23 (by omega) | with_reducible exact yarr57 (by omega) | with_reducible exact Or.inl rfl | with_reducible exact Or.inr rfl) (by first | omega | assumption | with_reducible exact rng_ld _ _ _ | with_reducible exact rng_yand _ _ | with_reducible exact rng_yor _ _ | with_reducible exact rng_zcmp _ _ | with_reducible exact yand7 _ | with_reducible exact rng_toInt _ | with_reducible exact yarr23 (by omega) | with_reducible exact yarr57 (by omega) | with_reducible exact Or.inl rfl | with_reducible exact Or.inr rfl) (by first | omega | assumption | with_reducible exact rng_ld _ _ _ | with_reducible exact rng_yand _ _ | with_reducible exact rng_yor _ _ | with_reducible exact rng_zcmp _ _ | with_reducible exact yand7 _ | with_reducible exact rng_toInt _ | with_reducible exact yarr23 (by omega) | with_reducible exact yarr57 (by omega) | with_reducible exact Or.inl rfl | with_reducible exact Or.inr rfl) (by first | exact t167 | exact i2) (by omega)
          · skip
            have hb := hj_a i3 (by omega) (by omega) hc g8
            refine uX9_prepareHalves_55 (by first | omega | assumption | with_reducible exact rng_ld _ _ _ | with_reducible exact rng_yand _ _ | with_reducible exact rng_yor _ _ | with_reducible exact rng_zcmp _ _ | with_reducible exact yand7 _ | with_reducible exact rng_toInt _ | with_reducible exact yarr23 (by omega) | with_reducible exact yarr57 (by omega) | with_reducible exact Or.inl rfl | with_reducible exact Or.inr rfl) (by first | omega | assumption | with_reducible exact rng_ld _ _ _ | with_reducible exact rng_yand _ _ | with_reducible exact rng_yor _ _ | with_reducible exact rng_zcmp _ _ | with_reducible exact yand7 _ | with_reducible exact rng_toInt _ | with_reducible exact yarr23 (by omega) | with_reducible exact yarr57 (by omega) | with_reducible exact Or.inl rfl | with_reducible exact Or.inr rfl) (by first | omega | assumption | with_reducible exact rng_ld _ _ _ | with_reducible exact rng_yand _ _ | with_reducible exact rng_yor _ _ | with_reducible exact rng_zcmp _ _ | with_reducible exact yand7 _ | with_reducible exact rng_toInt _ | with_reducible exact yarr23 (by omega) | with_reducible exact yarr57 (by omega) | with_reducible exact Or.inl rfl | with_reducible exact Or.inr rfl) ?_
            refine uX9_prepareHalves_167 (by first | omega | assumption | with_reducible exact rng_ld _ _ _ | with_reducible exact rng_yand _ _ | with_reducible exact rng_yor _ _ | with_reducible exact rng_zcmp _ _ | with_reducible exact yand7 _ | with_reducible exact rng_toInt _ | with_reducible exact yarr23 (by omega) | with_reducible exact yarr57 (by omega) | with_reducible exact Or.inl rfl | with_reducible exact Or.inr rfl) (by first | omega | assumption | with_reducible exact rng_ld _ _ _ | with_reducible exact rng_yand _ _ | with_reducible exact rng_yor _ _ | with_reducible exact rng_zcmp _ _ | with_reducible exact yand7 _ | with_reducible exact rng_toInt _ | with_reducible exact yarr23 (by omega) | with_reducible exact yarr57 (by omega) | with_reducible exact Or.inl rfl | with_reducible exact Or.inr rfl) ?_
            intro M7 hM7
            replace fM := fr.put fM hM7 (by first | omega | (dsimp only [wSub, wRun, wNar, wFil, wCan, wLst, wCar, wDr, wFl, wMq, wRd, wRx, wCr]; done) | (dsimp only [wSub, wRun, wNar, wFil, wCan, wLst, wCar, wDr, wFl, wMq, wRd, wRx, wCr]; omega) | (simp [wSub, wRun, wNar, wFil, wCan, wLst, wCar, wDr, wFl, wMq, wRd, wRx, wCr]; done) | (simp [wSub, wRun, wNar, wFil, wCan, wLst, wCar, wDr, wFl, wMq, wRd, wRx, wCr]; omega))
            have t167 : HJp M7 x0 x1 x2 x4 (x5 + 1) := i3.s (by omega) (by omega) hM7 (by first | with_reducible exact rng_yor _ _ | with_reducible exact rng_ld _ _ _) hb
            refine uX9_prepareHalves_184 ?_
            exact ih1 _ _ _ _ _ _ M7 fM (by first | omega | assumption | with_reducible exact rng_ld _ _ _ | with_reducible exact rng_yand _ _ | with_reducible exact rng_yor _ _ | with_reducible exact rng_zcmp _ _ | with_reducible exact yand7 _ | with_reducible exact rng_toInt _ | with_reducible exact yarr23 (by omega) | with_reducible exact yarr57 (by omega) | with_reducible exact Or.inl rfl | with_reducible exact Or.inr rfl) (by first | omega | assumption | with_reducible exact rng_ld _ _ _ | with_reducible exact rng_yand _ _ | with_reducible exact rng_yor _ _ | with_reducible exact rng_zcmp _ _ | with_reducible exact yand7 _ | with_reducible exact rng_toInt _ | with_reducible exact yarr23 (by omega) | with_reducible exact yarr57 (by omega) | with_reducible exact Or.inl rfl | with_reducible exact Or.inr rfl) (by first | omega | assumption | with_reducible exact rng_ld _ _ _ | with_reducible exact rng_yand _ _ | with_reducible exact rng_yor _ _ | with_reducible exact rng_zcmp _ _ | with_reducible exact yand7 _ | with_reducible exact rng_toInt _ | with_reducible exact yarr23 (by omega) | with_reducible exact yarr57 (by omega) | with_reducible exact Or.inl rfl | with_reducible exact Or.inr rfl) (by first | exact t167 | exact i2) (by omega)
  refine uX9_prepareHalves_0 ?_
  exact (go 1000000).1 _ _ _ _ _ _ M fM (by first | omega | assumption | with_reducible exact rng_ld _ _ _ | with_reducible exact rng_yand _ _ | with_reducible exact rng_yor _ _ | with_reducible exact rng_zcmp _ _ | with_reducible exact yand7 _ | with_reducible exact rng_toInt _ | with_reducible exact yarr23 (by omega) | with_reducible exact yarr57 (by omega) | with_reducible exact Or.inl rfl | with_reducible exact Or.inr rfl) (by first | omega | assumption | with_reducible exact rng_ld _ _ _ | with_reducible exact rng_yand _ _ | with_reducible exact rng_yor _ _ | with_reducible exact rng_zcmp _ _ | with_reducible exact yand7 _ | with_reducible exact rng_toInt _ | with_reducible exact yarr23 (by omega) | with_reducible exact yarr57 (by omega) | with_reducible exact Or.inl rfl | with_reducible exact Or.inr rfl) (by first | exact i3.row (by omega) | exact (fun l r a1 a2 a3 a4 a5 => absurd a5 (by omega))) (by omega)
theorem c9_prepare {d : Nat} {Q : yM → Prop} {M : yM} {x0 : Nat} (hT : tabSh x0)  (hk : 1 ≤ ld M x0 0 ∧ ld M x0 0 ≤ 8) (h0 : ld M (x0 + 3) 0 = 0) (hT8 : T8 M (x0 + 1)) (k : ∀ (M' : yM), fr (fun o j => o = x0 + 3 ∨ o = x0 + 4 ∧ 17 ≤ j % 256 ∧ j % 16 ≠ 0) M M' → (ld M' (x0 + 3) 0 = 0) → (TSl M' x0 (al (ld M' x0 0) + 1)) → (HJA M' x0) → Q M') : XCv (d + 3) 68 [.inr (.inr x0)] M Q := by
  refine eX9_prepare hT ?_
  have fM : fr (fun o j => o = x0 + 3 ∨ o = x0 + 4 ∧ 17 ≤ j % 256 ∧ j % 16 ≠ 0) M M := fr.rf
  have a1 := hT.2.1
  have a2 := hT.2.2.1
  have a3 := hT.2.2.2.1
  have a4 := hT.2.2.2.2.1
  have a5 := hT.2.2.2.2.2
  have hal := al_le hk
  have kx0_0 : ld M x0 0 = ld M x0 0 := rfl
  have t00 : ∀ s, 0 ≤ s → s < 1 → ld M (x0 + 3) s = tOf (ld M (x0 + 1)) s (ld M x0 0).toNat := fun s h1 h2 => by
    rw [show s = 0 by omega, h0, tOf_0 hT8 _ (by omega)]
  have go : ∀ N : Nat, (∀ (x1 : Int) (M9 : yM), fr (fun o j => o = x0 + 3 ∨ o = x0 + 4 ∧ 17 ≤ j % 256 ∧ j % 16 ≠ 0) M M9 → (1 ≤ x1 ∧ x1 ≤ al (ld M x0 0) + 1) → (∀ s, 0 ≤ s → s < x1 → ld M9 (x0 + 3) s = tOf (ld M (x0 + 1)) s (ld M x0 0).toNat) → (1000 + 256 - x1 < (N : Int)) → XW kX9_prepare (d + 3) none (wQv Q) 2 [some (.inr (.inr x0)), some (.inl x1), none, none] [] M9) ∧ (∀ (x1 : Int) (x2 : Int) (wx3 : Option yV) (M9 : yM), fr (fun o j => o = x0 + 3 ∨ o = x0 + 4 ∧ 17 ≤ j % 256 ∧ j % 16 ≠ 0) M M9 → (x1 = 2 ∧ 4 < ld M x0 0 ∨ x1 = 1 ∧ ld M x0 0 ≤ 4) → (0 ≤ x2 ∧ x2 ≤ x1) → (∀ s, 0 ≤ s → s < al (ld M x0 0) + 1 → ld M9 (x0 + 3) s = tOf (ld M (x0 + 1)) s (ld M x0 0).toNat) → (∀ lh rh : Int, 0 ≤ lh → 0 ≤ rh → lh < x2 → rh < x1 → HJl M9 x0 lh rh) → ((3 - x2) * 10 + 5 < (N : Int)) → XW kX9_prepare (d + 3) none (wQv Q) 60 [some (.inr (.inr x0)), some (.inl x1), some (.inl x2), wx3] [] M9) ∧ (∀ (x1 : Int) (x2 : Int) (x3 : Int) (M9 : yM), fr (fun o j => o = x0 + 3 ∨ o = x0 + 4 ∧ 17 ≤ j % 256 ∧ j % 16 ≠ 0) M M9 → (x1 = 2 ∧ 4 < ld M x0 0 ∨ x1 = 1 ∧ ld M x0 0 ≤ 4) → (0 ≤ x2 ∧ x2 < x1) → (0 ≤ x3 ∧ x3 ≤ x1) → (∀ s, 0 ≤ s → s < al (ld M x0 0) + 1 → ld M9 (x0 + 3) s = tOf (ld M (x0 + 1)) s (ld M x0 0).toNat) → (∀ lh rh : Int, 0 ≤ lh → 0 ≤ rh → (lh < x2 ∨ lh = x2 ∧ rh < x3) → rh < x1 → HJl M9 x0 lh rh) → ((3 - x2) * 10 + 3 - x3 < (N : Int)) → XW kX9_prepare (d + 3) none (wQv Q) 67 [some (.inr (.inr x0)), some (.inl x1), some (.inl x2), some (.inl x3)] [] M9) := by
    intro N
    induction N with
    | zero => refine ⟨?_, ?_, ?_⟩ <;> (intros; exfalso; omega)
    | succ N ih =>
      obtain ⟨ih0, ih1, ih2⟩ := ih
      refine ⟨?_, ?_, ?_⟩
      · skip
        clear fM
        intro x1 M1 fM i0 i1 hm
        have kx0_0 := fM.ld (o := x0) (j := 0) (by intro hw; first | omega | (dsimp only [wSub, wRun, wNar, wFil, wCan, wLst, wCar, wDr, wFl, wMq, wRd, wRx, wCr] at hw; omega) | (simp [wSub, wRun, wNar, wFil, wCan, wLst, wCar, wDr, wFl, wMq, wRd, wRx, wCr] at hw; done) | (simp [wSub, wRun, wNar, wFil, wCan, wLst, wCar, wDr, wFl, wMq, wRd, wRx, wCr] at hw; omega))
        have hal2 : 1 ≤ al (ld M1 x0 0) ∧ al (ld M1 x0 0) ≤ 255 := al_le (by omega)
        have ha2 : al (ld M1 x0 0) = al (ld M x0 0) := by rw [kx0_0]
        refine uX9_prepare_2 ?_
        refine c9_allT  (by first | assumption | exact tabSh1 | exact tabSh7 | exact tabSh13 | with_reducible exact yterm83 (by omega)) (by first | omega | assumption | with_reducible exact rng_ld _ _ _ | with_reducible exact rng_yand _ _ | with_reducible exact rng_yor _ _ | with_reducible exact rng_zcmp _ _ | with_reducible exact yand7 _ | with_reducible exact rng_toInt _ | with_reducible exact yarr23 (by omega) | with_reducible exact yarr57 (by omega) | with_reducible exact Or.inl rfl | with_reducible exact Or.inr rfl) ?_
        refine uX9_prepare_7 (by first | omega | assumption | with_reducible exact rng_ld _ _ _ | with_reducible exact rng_yand _ _ | with_reducible exact rng_yor _ _ | with_reducible exact rng_zcmp _ _ | with_reducible exact yand7 _ | with_reducible exact rng_toInt _ | with_reducible exact yarr23 (by omega) | with_reducible exact yarr57 (by omega) | with_reducible exact Or.inl rfl | with_reducible exact Or.inr rfl) (by first | omega | assumption | with_reducible exact rng_ld _ _ _ | with_reducible exact rng_yand _ _ | with_reducible exact rng_yor _ _ | with_reducible exact rng_zcmp _ _ | with_reducible exact yand7 _ | with_reducible exact rng_toInt _ | with_reducible exact yarr23 (by omega) | with_reducible exact yarr57 (by omega) | with_reducible exact Or.inl rfl | with_reducible exact Or.inr rfl) (fun hc => ?_) (fun hc => ?_)
        · skip
          have t44 : ∀ s, 0 ≤ s → s < al (ld M x0 0) + 1 → ld M1 (x0 + 3) s = tOf (ld M (x0 + 1)) s (ld M x0 0).toNat := fun s h1 h2 => i1 s h1 (by omega)
          refine uX9_prepare_44 (by first | omega | assumption | with_reducible exact rng_ld _ _ _ | with_reducible exact rng_yand _ _ | with_reducible exact rng_yor _ _ | with_reducible exact rng_zcmp _ _ | with_reducible exact yand7 _ | with_reducible exact rng_toInt _ | with_reducible exact yarr23 (by omega) | with_reducible exact yarr57 (by omega) | with_reducible exact Or.inl rfl | with_reducible exact Or.inr rfl) (fun hc => ?_) (fun hc => ?_)
          · skip
            refine uX9_prepare_56 ?_
            refine uX9_prepare_57 ?_
            exact ih1 _ _ _ M1 fM (by first | omega | assumption | with_reducible exact rng_ld _ _ _ | with_reducible exact rng_yand _ _ | with_reducible exact rng_yor _ _ | with_reducible exact rng_zcmp _ _ | with_reducible exact yand7 _ | with_reducible exact rng_toInt _ | with_reducible exact yarr23 (by omega) | with_reducible exact yarr57 (by omega) | with_reducible exact Or.inl rfl | with_reducible exact Or.inr rfl) (by first | omega | assumption | with_reducible exact rng_ld _ _ _ | with_reducible exact rng_yand _ _ | with_reducible exact rng_yor _ _ | with_reducible exact rng_zcmp _ _ | with_reducible exact yand7 _ | with_reducible exact rng_toInt _ | with_reducible exact yarr23 (by omega) | with_reducible exact yarr57 (by omega) | with_reducible exact Or.inl rfl | with_reducible exact Or.inr rfl) (by first | exact t44 | exact i3 | exact i2) (by first | exact (fun lh rh a1 a2 a3 a4 => i4 lh rh a1 a2 (by omega) a4) | exact (fun lh rh a1 a2 a3 a4 => absurd a3 (by omega))) (by omega)
          · skip
            refine uX9_prepare_52 ?_
            refine uX9_prepare_57 ?_
            exact ih1 _ _ _ M1 fM (by first | omega | assumption | with_reducible exact rng_ld _ _ _ | with_reducible exact rng_yand _ _ | with_reducible exact rng_yor _ _ | with_reducible exact rng_zcmp _ _ | with_reducible exact yand7 _ | with_reducible exact rng_toInt _ | with_reducible exact yarr23 (by omega) | with_reducible exact yarr57 (by omega) | with_reducible exact Or.inl rfl | with_reducible exact Or.inr rfl) (by first | omega | assumption | with_reducible exact rng_ld _ _ _ | with_reducible exact rng_yand _ _ | with_reducible exact rng_yor _ _ | with_reducible exact rng_zcmp _ _ | with_reducible exact yand7 _ | with_reducible exact rng_toInt _ | with_reducible exact yarr23 (by omega) | with_reducible exact yarr57 (by omega) | with_reducible exact Or.inl rfl | with_reducible exact Or.inr rfl) (by first | exact t44 | exact i3 | exact i2) (by first | exact (fun lh rh a1 a2 a3 a4 => i4 lh rh a1 a2 (by omega) a4) | exact (fun lh rh a1 a2 a3 a4 => absurd a3 (by omega))) (by omega)
        · skip
          have g4 : 0 ≤ yand x1 (x1 - 1) ∧ yand x1 (x1 - 1) ≤ x1 := yand_le (by omega)
          have g5 : 0 ≤ yand (x1 - 1) x1 ∧ yand (x1 - 1) x1 ≤ x1 - 1 := yand_le (by omega)
          rw [yand_comm] at g5
          have g6 := low_8 (x := x1) (by omega)
          obtain ⟨nk, hnk⟩ := Int.eq_ofNat_of_zero_le (show 0 ≤ ld M x0 0 by omega)
          obtain ⟨nx, hnx⟩ := Int.eq_ofNat_of_zero_le (show 0 ≤ x1 by omega)
          have g7 : low x1 < ld M x0 0 := by
            have q := low_le nk (by omega) nx (by omega) (by omega) (by rw [← hnx]; have e : al (ld M x0 0) = (2 : Int) ^ nk - 1 := by rw [al_def, hnk, Int.toNat_natCast]
                                                                        omega)
            rw [← hnx] at q
            omega
          have w1 : ld M1 (x0 + 1) (low x1) = ld M (x0 + 1) (low x1) := fM.ld (by omega)
          refine uX9_prepare_10 (by first | omega | assumption | with_reducible exact rng_ld _ _ _ | with_reducible exact rng_yand _ _ | with_reducible exact rng_yor _ _ | with_reducible exact rng_zcmp _ _ | with_reducible exact yand7 _ | with_reducible exact rng_toInt _ | with_reducible exact yarr23 (by omega) | with_reducible exact yarr57 (by omega) | with_reducible exact Or.inl rfl | with_reducible exact Or.inr rfl) (by first | omega | assumption | with_reducible exact rng_ld _ _ _ | with_reducible exact rng_yand _ _ | with_reducible exact rng_yor _ _ | with_reducible exact rng_zcmp _ _ | with_reducible exact yand7 _ | with_reducible exact rng_toInt _ | with_reducible exact yarr23 (by omega) | with_reducible exact yarr57 (by omega) | with_reducible exact Or.inl rfl | with_reducible exact Or.inr rfl) ?_
          refine XC.deep (c11_low  (d := 0)  ?_) (by omega)
          refine uX9_prepare_34 (by first | assumption | exact ⟨rfl, Nat.le_of_ble_eq_true rfl⟩ | with_reducible exact yarr23 (by omega) | with_reducible exact yarr57 (by omega)) (by first | omega | assumption | with_reducible exact rng_ld _ _ _ | with_reducible exact rng_yand _ _ | with_reducible exact rng_yor _ _ | with_reducible exact rng_zcmp _ _ | with_reducible exact yand7 _ | with_reducible exact rng_toInt _ | with_reducible exact yarr23 (by omega) | with_reducible exact yarr57 (by omega) | with_reducible exact Or.inl rfl | with_reducible exact Or.inr rfl) (by first | assumption | exact ⟨rfl, Nat.le_of_ble_eq_true rfl⟩ | with_reducible exact yarr23 (by omega) | with_reducible exact yarr57 (by omega)) (by first | omega | assumption | with_reducible exact rng_ld _ _ _ | with_reducible exact rng_yand _ _ | with_reducible exact rng_yor _ _ | with_reducible exact rng_zcmp _ _ | with_reducible exact yand7 _ | with_reducible exact rng_toInt _ | with_reducible exact yarr23 (by omega) | with_reducible exact yarr57 (by omega) | with_reducible exact Or.inl rfl | with_reducible exact Or.inr rfl) ?_
          intro M4 hM4
          replace fM := fr.put fM hM4 (by first | omega | (dsimp only [wSub, wRun, wNar, wFil, wCan, wLst, wCar, wDr, wFl, wMq, wRd, wRx, wCr]; done) | (dsimp only [wSub, wRun, wNar, wFil, wCan, wLst, wCar, wDr, wFl, wMq, wRd, wRx, wCr]; omega) | (simp [wSub, wRun, wNar, wFil, wCan, wLst, wCar, wDr, wFl, wMq, wRd, wRx, wCr]; done) | (simp [wSub, wRun, wNar, wFil, wCan, wLst, wCar, wDr, wFl, wMq, wRd, wRx, wCr]; omega))
          have kx0_0 := fM.ld (o := x0) (j := 0) (by intro hw; first | omega | (dsimp only [wSub, wRun, wNar, wFil, wCan, wLst, wCar, wDr, wFl, wMq, wRd, wRx, wCr] at hw; omega) | (simp [wSub, wRun, wNar, wFil, wCan, wLst, wCar, wDr, wFl, wMq, wRd, wRx, wCr] at hw; done) | (simp [wSub, wRun, wNar, wFil, wCan, wLst, wCar, wDr, wFl, wMq, wRd, wRx, wCr] at hw; omega))
          have t34 : ∀ s, 0 ≤ s → s < (x1 + 1) → ld M4 (x0 + 3) s = tOf (ld M (x0 + 1)) s (ld M x0 0).toNat := fun s h1 h2 => by
            rw [hM4, ld_put (rng_yor _ _)]
            split
            · next q =>
              rw [q.2, i1 _ g4.1 (by omega), w1]
              exact (tOf_low (by omega) (by omega) (fun a ha => hT8 a (by omega) (by omega)) (by omega)).symm
            · next q => exact i1 s h1 (by have : s ≠ x1 := fun e => q ⟨rfl, e⟩; omega)
          refine uX9_prepare_38 ?_
          exact ih0 _ M4 fM (by first | omega | assumption | with_reducible exact rng_ld _ _ _ | with_reducible exact rng_yand _ _ | with_reducible exact rng_yor _ _ | with_reducible exact rng_zcmp _ _ | with_reducible exact yand7 _ | with_reducible exact rng_toInt _ | with_reducible exact yarr23 (by omega) | with_reducible exact yarr57 (by omega) | with_reducible exact Or.inl rfl | with_reducible exact Or.inr rfl) (by first | exact t34 | exact t00) (by omega)
      · skip
        clear fM
        intro x1 x2 wx3 M5 fM i0 i1 i2 i3 hm
        have kx0_0 := fM.ld (o := x0) (j := 0) (by intro hw; first | omega | (dsimp only [wSub, wRun, wNar, wFil, wCan, wLst, wCar, wDr, wFl, wMq, wRd, wRx, wCr] at hw; omega) | (simp [wSub, wRun, wNar, wFil, wCan, wLst, wCar, wDr, wFl, wMq, wRd, wRx, wCr] at hw; done) | (simp [wSub, wRun, wNar, wFil, wCan, wLst, wCar, wDr, wFl, wMq, wRd, wRx, wCr] at hw; omega))
        refine uX9_prepare_60 (by first | omega | assumption | with_reducible exact rng_ld _ _ _ | with_reducible exact rng_yand _ _ | with_reducible exact rng_yor _ _ | with_reducible exact rng_zcmp _ _ | with_reducible exact yand7 _ | with_reducible exact rng_toInt _ | with_reducible exact yarr23 (by omega) | with_reducible exact yarr57 (by omega) | with_reducible exact Or.inl rfl | with_reducible exact Or.inr rfl) (by first | omega | assumption | with_reducible exact rng_ld _ _ _ | with_reducible exact rng_yand _ _ | with_reducible exact rng_yor _ _ | with_reducible exact rng_zcmp _ _ | with_reducible exact yand7 _ | with_reducible exact rng_toInt _ | with_reducible exact yarr23 (by omega) | with_reducible exact yarr57 (by omega) | with_reducible exact Or.inl rfl | with_reducible exact Or.inr rfl) (fun hc => ?_) (fun hc => ?_)
        · skip
          have z0 : ld M5 (x0 + 3) 0 = 0 := by rw [i2 0 (by omega) (by omega)]; exact tOf_0 hT8 _ (by omega)
          have z1 : TSl M5 x0 (al (ld M5 x0 0) + 1) := fun s h1 h2 => by
            have e1 : ld M5 (x0 + 1) = ld M (x0 + 1) := funext fun j => fM.ld (by omega)
            rw [kx0_0] at h2 ⊢
            rw [e1]
            exact i2 s h1 h2
          have z2 : HJA M5 x0 := fun lh rh a1 a2 a3 => i3 lh rh a1 a2 (by rw [kx0_0] at a3; omega) (by rw [kx0_0] at a3; omega)
          refine uX9_prepare_90 ?_
          exact k _ fM z0 z1 z2
        · skip
          refine uX9_prepare_65 ?_
          exact ih2 _ _ _ M5 fM (by first | omega | assumption | with_reducible exact rng_ld _ _ _ | with_reducible exact rng_yand _ _ | with_reducible exact rng_yor _ _ | with_reducible exact rng_zcmp _ _ | with_reducible exact yand7 _ | with_reducible exact rng_toInt _ | with_reducible exact yarr23 (by omega) | with_reducible exact yarr57 (by omega) | with_reducible exact Or.inl rfl | with_reducible exact Or.inr rfl) (by first | omega | assumption | with_reducible exact rng_ld _ _ _ | with_reducible exact rng_yand _ _ | with_reducible exact rng_yor _ _ | with_reducible exact rng_zcmp _ _ | with_reducible exact yand7 _ | with_reducible exact rng_toInt _ | with_reducible exact yarr23 (by omega) | with_reducible exact yarr57 (by omega) | with_reducible exact Or.inl rfl | with_reducible exact Or.inr rfl) (by first | omega | assumption | with_reducible exact rng_ld _ _ _ | with_reducible exact rng_yand _ _ | with_reducible exact rng_yor _ _ | with_reducible exact rng_zcmp _ _ | with_reducible exact yand7 _ | with_reducible exact rng_toInt _ | with_reducible exact yarr23 (by omega) | with_reducible exact yarr57 (by omega) | with_reducible exact Or.inl rfl | with_reducible exact Or.inr rfl) (by first | exact t72 | exact i2) (by first | exact h72 | exact (fun lh rh a1 a2 a3 a4 => i3 lh rh a1 a2 (by omega) a4)) (by omega)
      · skip
        clear fM
        intro x1 x2 x3 M6 fM i0 i1 i2 i3 i4 hm
        have kx0_0 := fM.ld (o := x0) (j := 0) (by intro hw; first | omega | (dsimp only [wSub, wRun, wNar, wFil, wCan, wLst, wCar, wDr, wFl, wMq, wRd, wRx, wCr] at hw; omega) | (simp [wSub, wRun, wNar, wFil, wCan, wLst, wCar, wDr, wFl, wMq, wRd, wRx, wCr] at hw; done) | (simp [wSub, wRun, wNar, wFil, wCan, wLst, wCar, wDr, wFl, wMq, wRd, wRx, wCr] at hw; omega))
        refine uX9_prepare_67 (by first | omega | assumption | with_reducible exact rng_ld _ _ _ | with_reducible exact rng_yand _ _ | with_reducible exact rng_yor _ _ | with_reducible exact rng_zcmp _ _ | with_reducible exact yand7 _ | with_reducible exact rng_toInt _ | with_reducible exact yarr23 (by omega) | with_reducible exact yarr57 (by omega) | with_reducible exact Or.inl rfl | with_reducible exact Or.inr rfl) (by first | omega | assumption | with_reducible exact rng_ld _ _ _ | with_reducible exact rng_yand _ _ | with_reducible exact rng_yor _ _ | with_reducible exact rng_zcmp _ _ | with_reducible exact yand7 _ | with_reducible exact rng_toInt _ | with_reducible exact yarr23 (by omega) | with_reducible exact yarr57 (by omega) | with_reducible exact Or.inl rfl | with_reducible exact Or.inr rfl) (fun hc => ?_) (fun hc => ?_)
        · skip
          refine uX9_prepare_84 ?_
          exact ih1 _ _ _ M6 fM (by first | omega | assumption | with_reducible exact rng_ld _ _ _ | with_reducible exact rng_yand _ _ | with_reducible exact rng_yor _ _ | with_reducible exact rng_zcmp _ _ | with_reducible exact yand7 _ | with_reducible exact rng_toInt _ | with_reducible exact yarr23 (by omega) | with_reducible exact yarr57 (by omega) | with_reducible exact Or.inl rfl | with_reducible exact Or.inr rfl) (by first | omega | assumption | with_reducible exact rng_ld _ _ _ | with_reducible exact rng_yand _ _ | with_reducible exact rng_yor _ _ | with_reducible exact rng_zcmp _ _ | with_reducible exact yand7 _ | with_reducible exact rng_toInt _ | with_reducible exact yarr23 (by omega) | with_reducible exact yarr57 (by omega) | with_reducible exact Or.inl rfl | with_reducible exact Or.inr rfl) (by first | exact t44 | exact i3 | exact i2) (by first | exact (fun lh rh a1 a2 a3 a4 => i4 lh rh a1 a2 (by omega) a4) | exact (fun lh rh a1 a2 a3 a4 => absurd a3 (by omega))) (by omega)
        · skip
          refine uX9_prepare_72 ?_
          refine XC.deep (c9_prepareHalves  (d := 0) (by first | assumption | exact tabSh1 | exact tabSh7 | exact tabSh13 | with_reducible exact yterm83 (by omega)) (by first | omega | assumption | with_reducible exact rng_ld _ _ _ | with_reducible exact rng_yand _ _ | with_reducible exact rng_yor _ _ | with_reducible exact rng_zcmp _ _ | with_reducible exact yand7 _ | with_reducible exact rng_toInt _ | with_reducible exact yarr23 (by omega) | with_reducible exact yarr57 (by omega) | with_reducible exact Or.inl rfl | with_reducible exact Or.inr rfl) (by first | omega | assumption | with_reducible exact rng_ld _ _ _ | with_reducible exact rng_yand _ _ | with_reducible exact rng_yor _ _ | with_reducible exact rng_zcmp _ _ | with_reducible exact yand7 _ | with_reducible exact rng_toInt _ | with_reducible exact yarr23 (by omega) | with_reducible exact yarr57 (by omega) | with_reducible exact Or.inl rfl | with_reducible exact Or.inr rfl) (fun M7 fM7 p7a => ?_)) (by omega)
          replace fM := fM.tr fM7 (by intro o j hw; first | omega | exact hw | (dsimp only [wSub, wRun, wNar, wFil, wCan, wLst, wCar, wDr, wFl, wMq, wRd, wRx, wCr] at hw; dsimp only [wSub, wRun, wNar, wFil, wCan, wLst, wCar, wDr, wFl, wMq, wRd, wRx, wCr]; omega) | (dsimp only [wSub, wRun, wNar, wFil, wCan, wLst, wCar, wDr, wFl, wMq, wRd, wRx, wCr]; omega) | (dsimp only [wSub, wRun, wNar, wFil, wCan, wLst, wCar, wDr, wFl, wMq, wRd, wRx, wCr] at hw; omega) | (simp [wSub, wRun, wNar, wFil, wCan, wLst, wCar, wDr, wFl, wMq, wRd, wRx, wCr] at hw; simp [wSub, wRun, wNar, wFil, wCan, wLst, wCar, wDr, wFl, wMq, wRd, wRx, wCr]; omega))
          have kx0_0 := fM.ld (o := x0) (j := 0) (by intro hw; first | omega | (dsimp only [wSub, wRun, wNar, wFil, wCan, wLst, wCar, wDr, wFl, wMq, wRd, wRx, wCr] at hw; omega) | (simp [wSub, wRun, wNar, wFil, wCan, wLst, wCar, wDr, wFl, wMq, wRd, wRx, wCr] at hw; done) | (simp [wSub, wRun, wNar, wFil, wCan, wLst, wCar, wDr, wFl, wMq, wRd, wRx, wCr] at hw; omega))
          have t72 : ∀ s, 0 ≤ s → s < al (ld M x0 0) + 1 → ld M7 (x0 + 3) s = tOf (ld M (x0 + 1)) s (ld M x0 0).toNat := fun s h1 h2 => by rw [fM7.ld (by omega)]; exact i3 s h1 h2
          have h72 : ∀ lh rh : Int, 0 ≤ lh → 0 ≤ rh → (lh < x2 ∨ lh = x2 ∧ rh < x3 + 1) → rh < x1 → HJl M7 x0 lh rh := fun lh rh a1 a2 a3 a4 => by
            by_cases q : lh = x2 ∧ rh = x3
            · rw [q.1, q.2]; exact p7a
            · exact (i4 lh rh a1 a2 (by omega) a4).fr fM7 (fun _ => by omega) (fun j b1 b2 => by omega)
          refine uX9_prepare_78 ?_
          exact ih2 _ _ _ M7 fM (by first | omega | assumption | with_reducible exact rng_ld _ _ _ | with_reducible exact rng_yand _ _ | with_reducible exact rng_yor _ _ | with_reducible exact rng_zcmp _ _ | with_reducible exact yand7 _ | with_reducible exact rng_toInt _ | with_reducible exact yarr23 (by omega) | with_reducible exact yarr57 (by omega) | with_reducible exact Or.inl rfl | with_reducible exact Or.inr rfl) (by first | omega | assumption | with_reducible exact rng_ld _ _ _ | with_reducible exact rng_yand _ _ | with_reducible exact rng_yor _ _ | with_reducible exact rng_zcmp _ _ | with_reducible exact yand7 _ | with_reducible exact rng_toInt _ | with_reducible exact yarr23 (by omega) | with_reducible exact yarr57 (by omega) | with_reducible exact Or.inl rfl | with_reducible exact Or.inr rfl) (by first | omega | assumption | with_reducible exact rng_ld _ _ _ | with_reducible exact rng_yand _ _ | with_reducible exact rng_yor _ _ | with_reducible exact rng_zcmp _ _ | with_reducible exact yand7 _ | with_reducible exact rng_toInt _ | with_reducible exact yarr23 (by omega) | with_reducible exact yarr57 (by omega) | with_reducible exact Or.inl rfl | with_reducible exact Or.inr rfl) (by first | exact t72 | exact i2) (by first | exact h72 | exact (fun lh rh a1 a2 a3 a4 => i3 lh rh a1 a2 (by omega) a4)) (by omega)
  refine uX9_prepare_0 ?_
  exact (go 1000000).1 _ M fM (by first | omega | assumption | with_reducible exact rng_ld _ _ _ | with_reducible exact rng_yand _ _ | with_reducible exact rng_yor _ _ | with_reducible exact rng_zcmp _ _ | with_reducible exact yand7 _ | with_reducible exact rng_toInt _ | with_reducible exact yarr23 (by omega) | with_reducible exact yarr57 (by omega) | with_reducible exact Or.inl rfl | with_reducible exact Or.inr rfl) (by first | exact t34 | exact t00) (by omega)
abbrev wTab (o : Nat) (j : Int) : Prop := (o = 1 ∧ j = 0) ∨ (2 ≤ o ∧ o ≤ 4) ∨ (o = 5 ∧ 17 ≤ j % 256 ∧ j % 16 ≠ 0) ∨ o = 6
abbrev wTr (o : Nat) (j : Int) : Prop := o = 3 ∨ o = 4 ∨ (o = 5 ∧ 17 ≤ j % 256 ∧ j % 16 ≠ 0)
theorem c9_freeTriangles {d : Nat} {Q : yM → Prop} {M : yM}   (hk : 1 ≤ ld M 1 0 ∧ ld M 1 0 ≤ 8) (h04 : ld M 4 0 = 0) (hT8 : T8 M 2) (k : ∀ (M' : yM), fr (wTr) M M' → (ld M' 4 0 = 0) → (TSl M' 1 (al (ld M' 1 0) + 1)) → (HJA M' 1) → (OPN M') → Q M') : XCv (d + 4) 64 [.inr (.inr 1)] M Q := by
  refine eX9_freeTriangles ?_
  have fM : fr (wTr) M M := fr.rf
  have a1 := tabSh1.2.1
  have a2 := tabSh1.2.2.1
  have a3 := tabSh1.2.2.2.1
  have a4 := tabSh1.2.2.2.2.1
  have a5 := tabSh1.2.2.2.2.2
  have go : ∀ N : Nat, (∀ (x1 : Int) (x2 : Int) (wx3 : Option yV) (M9 : yM), fr (wTr) M M9 → (0 ≤ x2 ∧ x2 ≤ ld M 1 0) → (FTr M9 (ld M 2) (ld M 1 0) x2 x2 1) → (x1 = yand (al (ld M 1 0)) (-2)) → (ld M9 4 0 = 0) → ((8 - x2) * 40 + 20 < (N : Int)) → XW kX9_freeTriangles (d + 4) none (wQv Q) 18 [some (.inr (.inr 1)), some (.inl x1), some (.inl x2), wx3] [] M9) ∧ (∀ (x1 : Int) (x2 : Int) (x3 : Int) (M9 : yM), fr (wTr) M M9 → (0 ≤ x2 ∧ x2 < ld M 1 0) → (1 ≤ x3 ∧ x3 ≤ 8) → (FTr M9 (ld M 2) (ld M 1 0) (x2 + 1) x2 x3) → (x1 = yand (al (ld M 1 0)) (-2)) → (ld M9 4 0 = 0) → ((8 - x2) * 40 + 8 - x3 < (N : Int)) → XW kX9_freeTriangles (d + 4) none (wQv Q) 49 [some (.inr (.inr 1)), some (.inl x1), some (.inl x2), some (.inl x3)] [] M9) := by
    intro N
    induction N with
    | zero => refine ⟨?_, ?_⟩ <;> (intros; exfalso; omega)
    | succ N ih =>
      obtain ⟨ih0, ih1⟩ := ih
      refine ⟨?_, ?_⟩
      · skip
        clear fM h04
        intro x1 x2 wx3 M1 fM i0 i1 i2 h04 hm
        have k1_0 := fM.ld (o := 1) (j := 0) (by intro hw; first | omega | (dsimp only [wSub, wRun, wNar, wFil, wCan, wLst, wCar, wDr, wFl, wMq, wRd, wRx, wCr, wTab, wTr] at hw; omega) | (simp [wSub, wRun, wNar, wFil, wCan, wLst, wCar, wDr, wFl, wMq, wRd, wRx, wCr, wTab, wTr] at hw; done) | (simp [wSub, wRun, wNar, wFil, wCan, wLst, wCar, wDr, wFl, wMq, wRd, wRx, wCr, wTab, wTr] at hw; omega))
        subst i2
        refine uX9_freeTriangles_18 (by first | omega | assumption | with_reducible exact rng_ld _ _ _ | with_reducible exact rng_yand _ _ | with_reducible exact rng_yor _ _ | with_reducible exact rng_zcmp _ _ | with_reducible exact yand7 _ | with_reducible exact rng_toInt _ | with_reducible exact yarr23 (by omega) | with_reducible exact yarr57 (by omega) | with_reducible exact Or.inl rfl | with_reducible exact Or.inr rfl) (fun hc => ?_) (fun hc => ?_)
        · skip
          have e2 : ∀ j, ld M1 2 j = ld M 2 j := fun j => fM.ld (by dsimp only [wTr]; omega)
          refine uX9_freeTriangles_101 ?_
          refine XC.deep (c9_prepare  (d := 0) (by first | assumption | exact tabSh1 | exact tabSh7 | exact tabSh13 | with_reducible exact yterm83 (by omega)) (by first | omega | assumption | with_reducible exact rng_ld _ _ _ | with_reducible exact rng_yand _ _ | with_reducible exact rng_yor _ _ | with_reducible exact rng_zcmp _ _ | with_reducible exact yand7 _ | with_reducible exact rng_toInt _ | with_reducible exact yarr23 (by omega) | with_reducible exact yarr57 (by omega) | with_reducible exact Or.inl rfl | with_reducible exact Or.inr rfl) h04 (T8.fr (o := 2) hT8 fM (fun _ _ _ => by (first | (dsimp only [wTr]; omega) | omega))) (fun M2 fM2 p2a p2b p2c => ?_)) (by omega)
          replace fM := fM.tr fM2 (by intro o j hw; first | omega | exact hw | (dsimp only [wSub, wRun, wNar, wFil, wCan, wLst, wCar, wDr, wFl, wMq, wRd, wRx, wCr, wTab, wTr] at hw; dsimp only [wSub, wRun, wNar, wFil, wCan, wLst, wCar, wDr, wFl, wMq, wRd, wRx, wCr, wTab, wTr]; omega) | (dsimp only [wSub, wRun, wNar, wFil, wCan, wLst, wCar, wDr, wFl, wMq, wRd, wRx, wCr, wTab, wTr]; omega) | (dsimp only [wSub, wRun, wNar, wFil, wCan, wLst, wCar, wDr, wFl, wMq, wRd, wRx, wCr, wTab, wTr] at hw; omega) | (simp [wSub, wRun, wNar, wFil, wCan, wLst, wCar, wDr, wFl, wMq, wRd, wRx, wCr, wTab, wTr] at hw; simp [wSub, wRun, wNar, wFil, wCan, wLst, wCar, wDr, wFl, wMq, wRd, wRx, wCr, wTab, wTr]; omega))
          have k1_0 := fM.ld (o := 1) (j := 0) (by intro hw; first | omega | (dsimp only [wSub, wRun, wNar, wFil, wCan, wLst, wCar, wDr, wFl, wMq, wRd, wRx, wCr, wTab, wTr] at hw; omega) | (simp [wSub, wRun, wNar, wFil, wCan, wLst, wCar, wDr, wFl, wMq, wRd, wRx, wCr, wTab, wTr] at hw; done) | (simp [wSub, wRun, wNar, wFil, wCan, wLst, wCar, wDr, wFl, wMq, wRd, wRx, wCr, wTab, wTr] at hw; omega))
          replace h04 : ld M2 4 0 = 0 := by first | assumption | (rw [fM2.ld (o := 4) (j := 0) (by intro hw; first | omega | (dsimp only [wSub, wRun, wNar, wFil, wCan, wLst, wCar, wDr, wFl, wMq, wRd, wRx, wCr, wTab, wTr] at hw; omega) | (simp [wSub, wRun, wNar, wFil, wCan, wLst, wCar, wDr, wFl, wMq, wRd, wRx, wCr, wTab, wTr] at hw; done) | (simp [wSub, wRun, wNar, wFil, wCan, wLst, wCar, wDr, wFl, wMq, wRd, wRx, wCr, wTab, wTr] at hw; omega))]; exact h04) | omega | exact p2a | exact p2b | exact p2c
          have z1 : TSl M2 1 (al (ld M2 1 0) + 1) := p2b
          have z2 := p2c
          have z3 : OPN M2 := fun a b a1 a2 b1 b2 => by
            have g1 : ld M2 1 0 = ld M 1 0 := k1_0
            have g2 : ld M2 2 = ld M 2 := funext fun j => by rw [fM2.ld (by omega)]; exact e2 j
            rw [g1] at a2 b2
            rw [g1, g2, fM2.ld (by omega)]
            exact i1 a b a1 (by omega) b1 (by omega) (by omega)
          refine uX9_freeTriangles_105 ?_
          exact k _ fM h04 z1 z2 z3
        · skip
          refine uX9_freeTriangles_26 (by first | omega | assumption | with_reducible exact rng_ld _ _ _ | with_reducible exact rng_yand _ _ | with_reducible exact rng_yor _ _ | with_reducible exact rng_zcmp _ _ | with_reducible exact yand7 _ | with_reducible exact rng_toInt _ | with_reducible exact yarr23 (by omega) | with_reducible exact yarr57 (by omega) | with_reducible exact Or.inl rfl | with_reducible exact Or.inr rfl) ?_
          intro M3 hM3
          replace fM := fr.put fM hM3 (by first | omega | (dsimp only [wSub, wRun, wNar, wFil, wCan, wLst, wCar, wDr, wFl, wMq, wRd, wRx, wCr, wTab, wTr]; done) | (dsimp only [wSub, wRun, wNar, wFil, wCan, wLst, wCar, wDr, wFl, wMq, wRd, wRx, wCr, wTab, wTr]; omega) | (simp [wSub, wRun, wNar, wFil, wCan, wLst, wCar, wDr, wFl, wMq, wRd, wRx, wCr, wTab, wTr]; done) | (simp [wSub, wRun, wNar, wFil, wCan, wLst, wCar, wDr, wFl, wMq, wRd, wRx, wCr, wTab, wTr]; omega))
          have k1_0 := fM.ld (o := 1) (j := 0) (by intro hw; first | omega | (dsimp only [wSub, wRun, wNar, wFil, wCan, wLst, wCar, wDr, wFl, wMq, wRd, wRx, wCr, wTab, wTr] at hw; omega) | (simp [wSub, wRun, wNar, wFil, wCan, wLst, wCar, wDr, wFl, wMq, wRd, wRx, wCr, wTab, wTr] at hw; done) | (simp [wSub, wRun, wNar, wFil, wCan, wLst, wCar, wDr, wFl, wMq, wRd, wRx, wCr, wTab, wTr] at hw; omega))
          replace h04 : ld M3 4 0 = 0 := by first | (rw [hM3, ld_putne (by omega)]; exact h04) | (rw [hM3, ld_same (by omega)]; omega) | (rw [hM3, ld_cpyne (by omega)]; exact h04) | (rw [hM3, ld_putL]; exact h04)
          have t26 : FTr M3 (ld M 2) (ld M 1 0) x2 x2 1 ∧ ld M3 3 (8 * 0 + x2) = yshl 1 x2 := ⟨i1.s (i0 := 0) (j0 := x2) (by rw [show 8 * 0 + x2 = x2 by omega]; exact hM3) (rng_yshl _ _) (by omega) (by unfold tv; rw [if_pos rfl]) (fun i j a1 a2 a3 a4 a5 => Or.inl a5), by rw [hM3, show 8 * 0 + x2 = x2 by omega, ld_same (rng_yshl _ _)]⟩
          have t26b : FTr M3 (ld M 2) (ld M 1 0) x2 x2 1 := t26.1
          have f26 : ∀ i j : Int, 0 ≤ i → i < 8 → 0 ≤ j → j < 8 → (i = 0 ∧ j < x2 + 1 ∨ j = 0 ∧ i < x2 ∨ 1 ≤ i ∧ i < x2 ∧ 1 ≤ j ∧ j < ld M 1 0) → ld M3 3 (8 * i + j) = tv (ld M 2) (ld M 1 0) i j := fun i j a1 a2 a3 a4 a5 => by
            by_cases q : i = 0 ∧ j = x2
            · rw [q.1, q.2, t26.2]; unfold tv; rw [if_pos rfl]
            · exact t26b i j a1 a2 a3 a4 (by omega)
          refine uX9_freeTriangles_35 (by first | omega | assumption | with_reducible exact rng_ld _ _ _ | with_reducible exact rng_yand _ _ | with_reducible exact rng_yor _ _ | with_reducible exact rng_zcmp _ _ | with_reducible exact yand7 _ | with_reducible exact rng_toInt _ | with_reducible exact yarr23 (by omega) | with_reducible exact yarr57 (by omega) | with_reducible exact Or.inl rfl | with_reducible exact Or.inr rfl) ?_
          intro M4 hM4
          replace fM := fr.put fM hM4 (by first | omega | (dsimp only [wSub, wRun, wNar, wFil, wCan, wLst, wCar, wDr, wFl, wMq, wRd, wRx, wCr, wTab, wTr]; done) | (dsimp only [wSub, wRun, wNar, wFil, wCan, wLst, wCar, wDr, wFl, wMq, wRd, wRx, wCr, wTab, wTr]; omega) | (simp [wSub, wRun, wNar, wFil, wCan, wLst, wCar, wDr, wFl, wMq, wRd, wRx, wCr, wTab, wTr]; done) | (simp [wSub, wRun, wNar, wFil, wCan, wLst, wCar, wDr, wFl, wMq, wRd, wRx, wCr, wTab, wTr]; omega))
          have k1_0 := fM.ld (o := 1) (j := 0) (by intro hw; first | omega | (dsimp only [wSub, wRun, wNar, wFil, wCan, wLst, wCar, wDr, wFl, wMq, wRd, wRx, wCr, wTab, wTr] at hw; omega) | (simp [wSub, wRun, wNar, wFil, wCan, wLst, wCar, wDr, wFl, wMq, wRd, wRx, wCr, wTab, wTr] at hw; done) | (simp [wSub, wRun, wNar, wFil, wCan, wLst, wCar, wDr, wFl, wMq, wRd, wRx, wCr, wTab, wTr] at hw; omega))
          replace h04 : ld M4 4 0 = 0 := by first | (rw [hM4, ld_putne (by omega)]; exact h04) | (rw [hM4, ld_same (by omega)]; omega) | (rw [hM4, ld_cpyne (by omega)]; exact h04) | (rw [hM4, ld_putL]; exact h04)
          have t35 : FTr M4 (ld M 2) (ld M 1 0) (x2 + 1) x2 1 := fun i j a1 a2 a3 a4 a5 => by
            rw [hM4, ld_put (rng_yshl _ _)]
            by_cases q : i = x2 ∧ j = 0
            · rw [if_pos ⟨rfl, by omega⟩, q.1, q.2]; unfold tv; split
              · next w => rw [w]
              · rfl
            · rw [if_neg (fun w => q (by omega))]
              exact f26 i j a1 a2 a3 a4 (by omega)
          refine uX9_freeTriangles_47 ?_
          exact ih1 _ _ _ M4 fM (by first | omega | assumption | with_reducible exact rng_ld _ _ _ | with_reducible exact rng_yand _ _ | with_reducible exact rng_yor _ _ | with_reducible exact rng_zcmp _ _ | with_reducible exact yand7 _ | with_reducible exact rng_toInt _ | with_reducible exact yarr23 (by omega) | with_reducible exact yarr57 (by omega) | with_reducible exact Or.inl rfl | with_reducible exact Or.inr rfl) (by first | omega | assumption | with_reducible exact rng_ld _ _ _ | with_reducible exact rng_yand _ _ | with_reducible exact rng_yor _ _ | with_reducible exact rng_zcmp _ _ | with_reducible exact yand7 _ | with_reducible exact rng_toInt _ | with_reducible exact yarr23 (by omega) | with_reducible exact yarr57 (by omega) | with_reducible exact Or.inl rfl | with_reducible exact Or.inr rfl) (by first | exact t88 | exact t35) (by first | omega | assumption | with_reducible exact rng_ld _ _ _ | with_reducible exact rng_yand _ _ | with_reducible exact rng_yor _ _ | with_reducible exact rng_zcmp _ _ | with_reducible exact yand7 _ | with_reducible exact rng_toInt _ | with_reducible exact yarr23 (by omega) | with_reducible exact yarr57 (by omega) | with_reducible exact Or.inl rfl | with_reducible exact Or.inr rfl) h04 (by omega)
      · skip
        clear fM h04
        intro x1 x2 x3 M5 fM i0 i1 i2 i3 h04 hm
        have k1_0 := fM.ld (o := 1) (j := 0) (by intro hw; first | omega | (dsimp only [wSub, wRun, wNar, wFil, wCan, wLst, wCar, wDr, wFl, wMq, wRd, wRx, wCr, wTab, wTr] at hw; omega) | (simp [wSub, wRun, wNar, wFil, wCan, wLst, wCar, wDr, wFl, wMq, wRd, wRx, wCr, wTab, wTr] at hw; done) | (simp [wSub, wRun, wNar, wFil, wCan, wLst, wCar, wDr, wFl, wMq, wRd, wRx, wCr, wTab, wTr] at hw; omega))
        subst i3
        refine uX9_freeTriangles_49 (by first | omega | assumption | with_reducible exact rng_ld _ _ _ | with_reducible exact rng_yand _ _ | with_reducible exact rng_yor _ _ | with_reducible exact rng_zcmp _ _ | with_reducible exact yand7 _ | with_reducible exact rng_toInt _ | with_reducible exact yarr23 (by omega) | with_reducible exact yarr57 (by omega) | with_reducible exact Or.inl rfl | with_reducible exact Or.inr rfl) (fun hc => ?_) (fun hc => ?_)
        · skip
          refine uX9_freeTriangles_95 ?_
          exact ih0 _ _ _ M5 fM (by first | omega | assumption | with_reducible exact rng_ld _ _ _ | with_reducible exact rng_yand _ _ | with_reducible exact rng_yor _ _ | with_reducible exact rng_zcmp _ _ | with_reducible exact yand7 _ | with_reducible exact rng_toInt _ | with_reducible exact yarr23 (by omega) | with_reducible exact yarr57 (by omega) | with_reducible exact Or.inl rfl | with_reducible exact Or.inr rfl) (by first | exact i2.up (fun i j a1 a2 a3 a4 a5 => by omega) | exact (fun i j a1 a2 a3 a4 a5 => absurd a5 (by omega))) (by first | omega | assumption | with_reducible exact rng_ld _ _ _ | with_reducible exact rng_yand _ _ | with_reducible exact rng_yor _ _ | with_reducible exact rng_zcmp _ _ | with_reducible exact yand7 _ | with_reducible exact rng_toInt _ | with_reducible exact yarr23 (by omega) | with_reducible exact yarr57 (by omega) | with_reducible exact Or.inl rfl | with_reducible exact Or.inr rfl) h04 (by omega)
        · skip
          refine uX9_freeTriangles_57 (by first | omega | assumption | with_reducible exact rng_ld _ _ _ | with_reducible exact rng_yand _ _ | with_reducible exact rng_yor _ _ | with_reducible exact rng_zcmp _ _ | with_reducible exact yand7 _ | with_reducible exact rng_toInt _ | with_reducible exact yarr23 (by omega) | with_reducible exact yarr57 (by omega) | with_reducible exact Or.inl rfl | with_reducible exact Or.inr rfl) (fun hc => ?_) (fun hc => ?_)
          · skip
            refine uX9_freeTriangles_95 ?_
            exact ih0 _ _ _ M5 fM (by first | omega | assumption | with_reducible exact rng_ld _ _ _ | with_reducible exact rng_yand _ _ | with_reducible exact rng_yor _ _ | with_reducible exact rng_zcmp _ _ | with_reducible exact yand7 _ | with_reducible exact rng_toInt _ | with_reducible exact yarr23 (by omega) | with_reducible exact yarr57 (by omega) | with_reducible exact Or.inl rfl | with_reducible exact Or.inr rfl) (by first | exact i2.up (fun i j a1 a2 a3 a4 a5 => by omega) | exact (fun i j a1 a2 a3 a4 a5 => absurd a5 (by omega))) (by first | omega | assumption | with_reducible exact rng_ld _ _ _ | with_reducible exact rng_yand _ _ | with_reducible exact rng_yor _ _ | with_reducible exact rng_zcmp _ _ | with_reducible exact yand7 _ | with_reducible exact rng_toInt _ | with_reducible exact yarr23 (by omega) | with_reducible exact yarr57 (by omega) | with_reducible exact Or.inl rfl | with_reducible exact Or.inr rfl) h04 (by omega)
          · skip
            have w2 : ld M5 2 x2 = ld M 2 x2 := fM.ld (by dsimp only [wTr]; omega)
            refine uX9_freeTriangles_61 (by first | omega | assumption | with_reducible exact rng_ld _ _ _ | with_reducible exact rng_yand _ _ | with_reducible exact rng_yor _ _ | with_reducible exact rng_zcmp _ _ | with_reducible exact yand7 _ | with_reducible exact rng_toInt _ | with_reducible exact yarr23 (by omega) | with_reducible exact yarr57 (by omega) | with_reducible exact Or.inl rfl | with_reducible exact Or.inr rfl) (by first | omega | assumption | with_reducible exact rng_ld _ _ _ | with_reducible exact rng_yand _ _ | with_reducible exact rng_yor _ _ | with_reducible exact rng_zcmp _ _ | with_reducible exact yand7 _ | with_reducible exact rng_toInt _ | with_reducible exact yarr23 (by omega) | with_reducible exact yarr57 (by omega) | with_reducible exact Or.inl rfl | with_reducible exact Or.inr rfl) (fun hc => ?_) (fun hc => ?_)
            · skip
              refine uX9_freeTriangles_87 ?_
              refine uX9_freeTriangles_88 (by first | omega | assumption | with_reducible exact rng_ld _ _ _ | with_reducible exact rng_yand _ _ | with_reducible exact rng_yor _ _ | with_reducible exact rng_zcmp _ _ | with_reducible exact yand7 _ | with_reducible exact rng_toInt _ | with_reducible exact yarr23 (by omega) | with_reducible exact yarr57 (by omega) | with_reducible exact Or.inl rfl | with_reducible exact Or.inr rfl) ?_
              intro M6 hM6
              replace fM := fr.put fM hM6 (by first | omega | (dsimp only [wSub, wRun, wNar, wFil, wCan, wLst, wCar, wDr, wFl, wMq, wRd, wRx, wCr, wTab, wTr]; done) | (dsimp only [wSub, wRun, wNar, wFil, wCan, wLst, wCar, wDr, wFl, wMq, wRd, wRx, wCr, wTab, wTr]; omega) | (simp [wSub, wRun, wNar, wFil, wCan, wLst, wCar, wDr, wFl, wMq, wRd, wRx, wCr, wTab, wTr]; done) | (simp [wSub, wRun, wNar, wFil, wCan, wLst, wCar, wDr, wFl, wMq, wRd, wRx, wCr, wTab, wTr]; omega))
              have k1_0 := fM.ld (o := 1) (j := 0) (by intro hw; first | omega | (dsimp only [wSub, wRun, wNar, wFil, wCan, wLst, wCar, wDr, wFl, wMq, wRd, wRx, wCr, wTab, wTr] at hw; omega) | (simp [wSub, wRun, wNar, wFil, wCan, wLst, wCar, wDr, wFl, wMq, wRd, wRx, wCr, wTab, wTr] at hw; done) | (simp [wSub, wRun, wNar, wFil, wCan, wLst, wCar, wDr, wFl, wMq, wRd, wRx, wCr, wTab, wTr] at hw; omega))
              replace h04 : ld M6 4 0 = 0 := by first | (rw [hM6, ld_putne (by omega)]; exact h04) | (rw [hM6, ld_same (by omega)]; omega) | (rw [hM6, ld_cpyne (by omega)]; exact h04) | (rw [hM6, ld_putL]; exact h04)
              have t88 : FTr M6 (ld M 2) (ld M 1 0) (x2 + 1) x2 (x3 + 1) := i2.s hM6 (by first | exact rng_yor _ _ | exact rng_yand _ _) (by omega) (by unfold tv; first | rw [if_neg (by omega), if_neg (by omega), if_pos (by omega)] | rw [if_neg (by omega), if_neg (by omega), if_neg (by omega)]) (fun i j a1 a2 a3 a4 a5 => by omega)
              refine uX9_freeTriangles_89 ?_
              exact ih1 _ _ _ M6 fM (by first | omega | assumption | with_reducible exact rng_ld _ _ _ | with_reducible exact rng_yand _ _ | with_reducible exact rng_yor _ _ | with_reducible exact rng_zcmp _ _ | with_reducible exact yand7 _ | with_reducible exact rng_toInt _ | with_reducible exact yarr23 (by omega) | with_reducible exact yarr57 (by omega) | with_reducible exact Or.inl rfl | with_reducible exact Or.inr rfl) (by first | omega | assumption | with_reducible exact rng_ld _ _ _ | with_reducible exact rng_yand _ _ | with_reducible exact rng_yor _ _ | with_reducible exact rng_zcmp _ _ | with_reducible exact yand7 _ | with_reducible exact rng_toInt _ | with_reducible exact yarr23 (by omega) | with_reducible exact yarr57 (by omega) | with_reducible exact Or.inl rfl | with_reducible exact Or.inr rfl) (by first | exact t88 | exact t35) (by first | omega | assumption | with_reducible exact rng_ld _ _ _ | with_reducible exact rng_yand _ _ | with_reducible exact rng_yor _ _ | with_reducible exact rng_zcmp _ _ | with_reducible exact yand7 _ | with_reducible exact rng_toInt _ | with_reducible exact yarr23 (by omega) | with_reducible exact yarr57 (by omega) | with_reducible exact Or.inl rfl | with_reducible exact Or.inr rfl) h04 (by omega)
            · skip
              refine uX9_freeTriangles_81 ?_
              refine uX9_freeTriangles_88 (by first | omega | assumption | with_reducible exact rng_ld _ _ _ | with_reducible exact rng_yand _ _ | with_reducible exact rng_yor _ _ | with_reducible exact rng_zcmp _ _ | with_reducible exact yand7 _ | with_reducible exact rng_toInt _ | with_reducible exact yarr23 (by omega) | with_reducible exact yarr57 (by omega) | with_reducible exact Or.inl rfl | with_reducible exact Or.inr rfl) ?_
              intro M7 hM7
              replace fM := fr.put fM hM7 (by first | omega | (dsimp only [wSub, wRun, wNar, wFil, wCan, wLst, wCar, wDr, wFl, wMq, wRd, wRx, wCr, wTab, wTr]; done) | (dsimp only [wSub, wRun, wNar, wFil, wCan, wLst, wCar, wDr, wFl, wMq, wRd, wRx, wCr, wTab, wTr]; omega) | (simp [wSub, wRun, wNar, wFil, wCan, wLst, wCar, wDr, wFl, wMq, wRd, wRx, wCr, wTab, wTr]; done) | (simp [wSub, wRun, wNar, wFil, wCan, wLst, wCar, wDr, wFl, wMq, wRd, wRx, wCr, wTab, wTr]; omega))
              have k1_0 := fM.ld (o := 1) (j := 0) (by intro hw; first | omega | (dsimp only [wSub, wRun, wNar, wFil, wCan, wLst, wCar, wDr, wFl, wMq, wRd, wRx, wCr, wTab, wTr] at hw; omega) | (simp [wSub, wRun, wNar, wFil, wCan, wLst, wCar, wDr, wFl, wMq, wRd, wRx, wCr, wTab, wTr] at hw; done) | (simp [wSub, wRun, wNar, wFil, wCan, wLst, wCar, wDr, wFl, wMq, wRd, wRx, wCr, wTab, wTr] at hw; omega))
              replace h04 : ld M7 4 0 = 0 := by first | (rw [hM7, ld_putne (by omega)]; exact h04) | (rw [hM7, ld_same (by omega)]; omega) | (rw [hM7, ld_cpyne (by omega)]; exact h04) | (rw [hM7, ld_putL]; exact h04)
              have t88 : FTr M7 (ld M 2) (ld M 1 0) (x2 + 1) x2 (x3 + 1) := i2.s hM7 (by first | exact rng_yor _ _ | exact rng_yand _ _) (by omega) (by unfold tv; first | rw [if_neg (by omega), if_neg (by omega), if_pos (by omega)] | rw [if_neg (by omega), if_neg (by omega), if_neg (by omega)]) (fun i j a1 a2 a3 a4 a5 => by omega)
              refine uX9_freeTriangles_89 ?_
              exact ih1 _ _ _ M7 fM (by first | omega | assumption | with_reducible exact rng_ld _ _ _ | with_reducible exact rng_yand _ _ | with_reducible exact rng_yor _ _ | with_reducible exact rng_zcmp _ _ | with_reducible exact yand7 _ | with_reducible exact rng_toInt _ | with_reducible exact yarr23 (by omega) | with_reducible exact yarr57 (by omega) | with_reducible exact Or.inl rfl | with_reducible exact Or.inr rfl) (by first | omega | assumption | with_reducible exact rng_ld _ _ _ | with_reducible exact rng_yand _ _ | with_reducible exact rng_yor _ _ | with_reducible exact rng_zcmp _ _ | with_reducible exact yand7 _ | with_reducible exact rng_toInt _ | with_reducible exact yarr23 (by omega) | with_reducible exact yarr57 (by omega) | with_reducible exact Or.inl rfl | with_reducible exact Or.inr rfl) (by first | exact t88 | exact t35) (by first | omega | assumption | with_reducible exact rng_ld _ _ _ | with_reducible exact rng_yand _ _ | with_reducible exact rng_yor _ _ | with_reducible exact rng_zcmp _ _ | with_reducible exact yand7 _ | with_reducible exact rng_toInt _ | with_reducible exact yarr23 (by omega) | with_reducible exact yarr57 (by omega) | with_reducible exact Or.inl rfl | with_reducible exact Or.inr rfl) h04 (by omega)
  refine uX9_freeTriangles_0 ?_
  refine c9_allT  (by first | assumption | exact tabSh1 | exact tabSh7 | exact tabSh13 | with_reducible exact yterm83 (by omega)) (by first | omega | assumption | with_reducible exact rng_ld _ _ _ | with_reducible exact rng_yand _ _ | with_reducible exact rng_yor _ _ | with_reducible exact rng_zcmp _ _ | with_reducible exact yand7 _ | with_reducible exact rng_toInt _ | with_reducible exact yarr23 (by omega) | with_reducible exact yarr57 (by omega) | with_reducible exact Or.inl rfl | with_reducible exact Or.inr rfl) ?_
  refine uX9_freeTriangles_4 ?_
  refine cJ7_fillv  (by first | assumption | exact ⟨rfl, Nat.le_of_ble_eq_true rfl⟩ | with_reducible exact yarr23 (by omega) | with_reducible exact yarr57 (by omega)) (by first | omega | assumption | with_reducible exact rng_ld _ _ _ | with_reducible exact rng_yand _ _ | with_reducible exact rng_yor _ _ | with_reducible exact rng_zcmp _ _ | with_reducible exact yand7 _ | with_reducible exact rng_toInt _ | with_reducible exact yarr23 (by omega) | with_reducible exact yarr57 (by omega) | with_reducible exact Or.inl rfl | with_reducible exact Or.inr rfl) (fun M9 fM9 p9a => ?_)
  replace fM := fM.tr fM9 (by intro o j hw; first | omega | exact hw | (dsimp only [wSub, wRun, wNar, wFil, wCan, wLst, wCar, wDr, wFl, wMq, wRd, wRx, wCr, wTab, wTr] at hw; dsimp only [wSub, wRun, wNar, wFil, wCan, wLst, wCar, wDr, wFl, wMq, wRd, wRx, wCr, wTab, wTr]; omega) | (dsimp only [wSub, wRun, wNar, wFil, wCan, wLst, wCar, wDr, wFl, wMq, wRd, wRx, wCr, wTab, wTr]; omega) | (dsimp only [wSub, wRun, wNar, wFil, wCan, wLst, wCar, wDr, wFl, wMq, wRd, wRx, wCr, wTab, wTr] at hw; omega) | (simp [wSub, wRun, wNar, wFil, wCan, wLst, wCar, wDr, wFl, wMq, wRd, wRx, wCr, wTab, wTr] at hw; simp [wSub, wRun, wNar, wFil, wCan, wLst, wCar, wDr, wFl, wMq, wRd, wRx, wCr, wTab, wTr]; omega))
  have k1_0 := fM.ld (o := 1) (j := 0) (by intro hw; first | omega | (dsimp only [wSub, wRun, wNar, wFil, wCan, wLst, wCar, wDr, wFl, wMq, wRd, wRx, wCr, wTab, wTr] at hw; omega) | (simp [wSub, wRun, wNar, wFil, wCan, wLst, wCar, wDr, wFl, wMq, wRd, wRx, wCr, wTab, wTr] at hw; done) | (simp [wSub, wRun, wNar, wFil, wCan, wLst, wCar, wDr, wFl, wMq, wRd, wRx, wCr, wTab, wTr] at hw; omega))
  replace h04 : ld M9 4 0 = 0 := by first | assumption | (rw [fM9.ld (o := 4) (j := 0) (by intro hw; first | omega | (dsimp only [wSub, wRun, wNar, wFil, wCan, wLst, wCar, wDr, wFl, wMq, wRd, wRx, wCr, wTab, wTr] at hw; omega) | (simp [wSub, wRun, wNar, wFil, wCan, wLst, wCar, wDr, wFl, wMq, wRd, wRx, wCr, wTab, wTr] at hw; done) | (simp [wSub, wRun, wNar, wFil, wCan, wLst, wCar, wDr, wFl, wMq, wRd, wRx, wCr, wTab, wTr] at hw; omega))]; exact h04) | omega | exact p9a
  refine uX9_freeTriangles_16 ?_
  exact (go 1000000).1 _ _ _ M9 fM (by first | omega | assumption | with_reducible exact rng_ld _ _ _ | with_reducible exact rng_yand _ _ | with_reducible exact rng_yor _ _ | with_reducible exact rng_zcmp _ _ | with_reducible exact yand7 _ | with_reducible exact rng_toInt _ | with_reducible exact yarr23 (by omega) | with_reducible exact yarr57 (by omega) | with_reducible exact Or.inl rfl | with_reducible exact Or.inr rfl) (by first | exact i2.up (fun i j a1 a2 a3 a4 a5 => by omega) | exact (fun i j a1 a2 a3 a4 a5 => absurd a5 (by omega))) (by first | omega | assumption | with_reducible exact rng_ld _ _ _ | with_reducible exact rng_yand _ _ | with_reducible exact rng_yor _ _ | with_reducible exact rng_zcmp _ _ | with_reducible exact yand7 _ | with_reducible exact rng_toInt _ | with_reducible exact yarr23 (by omega) | with_reducible exact yarr57 (by omega) | with_reducible exact Or.inl rfl | with_reducible exact Or.inr rfl) h04 (by omega)
theorem c9_restart {d : Nat} {Q : yM → Prop} {M : yM} {x1 : Int}  (h1 : 1 ≤ x1 ∧ x1 ≤ 8) (h04 : ld M 4 0 = 0) (k : ∀ (M' : yM), fr (wTab) M M' → (ld M' 1 0 = x1) → (∀ a, 0 ≤ a → a < 8 → ld M' 2 a = a) → (ld M' 4 0 = 0) → (TSl M' 1 (al (ld M' 1 0) + 1)) → (HJA M' 1) → (OPN M') → Q M') : XCv (d + 5) 62 [.inr (.inr 1), .inl x1] M Q := by
  refine eX9_restart ?_
  have fM : fr (wTab) M M := fr.rf
  have a1 := tabSh1.2.1
  have a2 := tabSh1.2.2.1
  have a3 := tabSh1.2.2.2.1
  have a4 := tabSh1.2.2.2.2.1
  have a5 := tabSh1.2.2.2.2.2
  have go : ∀ N : Nat, (∀ (x2 : Int) (M9 : yM), fr (wTab) M M9 → (0 ≤ x2 ∧ x2 ≤ 8) → (∀ a, 0 ≤ a → a < x2 → ld M9 2 a = a) → (ld M9 4 0 = 0) → (ld M9 1 0 = x1) → (8 - x2 < (N : Int)) → XW kX9_restart (d + 5) none (wQv Q) 7 [some (.inr (.inr 1)), some (.inl x1), some (.inl x2)] [] M9) := by
    intro N
    induction N with
    | zero => intros; exfalso; omega
    | succ N ih =>
      have ih0 := ih
      clear fM h04
      intro x2 M1 fM i0 i1 h04 t1 hm
      refine uX9_restart_7 (by first | omega | assumption | with_reducible exact rng_ld _ _ _ | with_reducible exact rng_yand _ _ | with_reducible exact rng_yor _ _ | with_reducible exact rng_zcmp _ _ | with_reducible exact yand7 _ | with_reducible exact rng_toInt _ | with_reducible exact yarr23 (by omega) | with_reducible exact yarr57 (by omega) | with_reducible exact Or.inl rfl | with_reducible exact Or.inr rfl) (fun hc => ?_) (fun hc => ?_)
      · skip
        refine uX9_restart_26 ?_
        refine XC.deep (c9_freeTriangles  (d := 0) (by first | omega | assumption | with_reducible exact rng_ld _ _ _ | with_reducible exact rng_yand _ _ | with_reducible exact rng_yor _ _ | with_reducible exact rng_zcmp _ _ | with_reducible exact yand7 _ | with_reducible exact rng_toInt _ | with_reducible exact yarr23 (by omega) | with_reducible exact yarr57 (by omega) | with_reducible exact Or.inl rfl | with_reducible exact Or.inr rfl) h04 (fun j q1 q2 => by rw [i1 j q1 (by omega)]; omega) (fun M2 fM2 p2a p2b p2c p2d => ?_)) (by omega)
        replace fM := fM.tr fM2 (by intro o j hw; first | omega | exact hw | (dsimp only [wSub, wRun, wNar, wFil, wCan, wLst, wCar, wDr, wFl, wMq, wRd, wRx, wCr, wTab, wTr] at hw; dsimp only [wSub, wRun, wNar, wFil, wCan, wLst, wCar, wDr, wFl, wMq, wRd, wRx, wCr, wTab, wTr]; omega) | (dsimp only [wSub, wRun, wNar, wFil, wCan, wLst, wCar, wDr, wFl, wMq, wRd, wRx, wCr, wTab, wTr]; omega) | (dsimp only [wSub, wRun, wNar, wFil, wCan, wLst, wCar, wDr, wFl, wMq, wRd, wRx, wCr, wTab, wTr] at hw; omega) | (simp [wSub, wRun, wNar, wFil, wCan, wLst, wCar, wDr, wFl, wMq, wRd, wRx, wCr, wTab, wTr] at hw; simp [wSub, wRun, wNar, wFil, wCan, wLst, wCar, wDr, wFl, wMq, wRd, wRx, wCr, wTab, wTr]; omega))
        replace h04 : ld M2 4 0 = 0 := by first | assumption | (rw [fM2.ld (o := 4) (j := 0) (by intro hw; first | omega | (dsimp only [wSub, wRun, wNar, wFil, wCan, wLst, wCar, wDr, wFl, wMq, wRd, wRx, wCr, wTab, wTr] at hw; omega) | (simp [wSub, wRun, wNar, wFil, wCan, wLst, wCar, wDr, wFl, wMq, wRd, wRx, wCr, wTab, wTr] at hw; done) | (simp [wSub, wRun, wNar, wFil, wCan, wLst, wCar, wDr, wFl, wMq, wRd, wRx, wCr, wTab, wTr] at hw; omega))]; exact h04) | omega | exact p2a | exact p2b | exact p2c | exact p2d
        replace t1 : ld M2 1 0 = x1 := by first | assumption | (rw [fM2.ld (o := 1) (j := 0) (by intro hw; first | omega | (dsimp only [wSub, wRun, wNar, wFil, wCan, wLst, wCar, wDr, wFl, wMq, wRd, wRx, wCr, wTab, wTr] at hw; omega) | (simp [wSub, wRun, wNar, wFil, wCan, wLst, wCar, wDr, wFl, wMq, wRd, wRx, wCr, wTab, wTr] at hw; done) | (simp [wSub, wRun, wNar, wFil, wCan, wLst, wCar, wDr, wFl, wMq, wRd, wRx, wCr, wTab, wTr] at hw; omega))]; exact t1) | omega | exact p2a | exact p2b | exact p2c | exact p2d
        have t3 : ∀ a, 0 ≤ a → a < 8 → ld M2 2 a = a := fun a h1 h2 => by rw [fM2.ld (by dsimp only [wTr]; omega)]; exact i1 a h1 (by omega)
        have z1 := p2b
        have z2 := p2c
        have z3 := p2d
        refine uX9_restart_30 ?_
        exact k _ fM (by first | omega | assumption | with_reducible exact rng_ld _ _ _ | with_reducible exact rng_yand _ _ | with_reducible exact rng_yor _ _ | with_reducible exact rng_zcmp _ _ | with_reducible exact yand7 _ | with_reducible exact rng_toInt _ | with_reducible exact yarr23 (by omega) | with_reducible exact yarr57 (by omega) | with_reducible exact Or.inl rfl | with_reducible exact Or.inr rfl) t3 h04 z1 z2 z3
      · skip
        refine uX9_restart_13 (by first | omega | assumption | with_reducible exact rng_ld _ _ _ | with_reducible exact rng_yand _ _ | with_reducible exact rng_yor _ _ | with_reducible exact rng_zcmp _ _ | with_reducible exact yand7 _ | with_reducible exact rng_toInt _ | with_reducible exact yarr23 (by omega) | with_reducible exact yarr57 (by omega) | with_reducible exact Or.inl rfl | with_reducible exact Or.inr rfl) ?_
        intro M3 hM3
        replace fM := fr.put fM hM3 (by first | omega | (dsimp only [wSub, wRun, wNar, wFil, wCan, wLst, wCar, wDr, wFl, wMq, wRd, wRx, wCr, wTab, wTr]; done) | (dsimp only [wSub, wRun, wNar, wFil, wCan, wLst, wCar, wDr, wFl, wMq, wRd, wRx, wCr, wTab, wTr]; omega) | (simp [wSub, wRun, wNar, wFil, wCan, wLst, wCar, wDr, wFl, wMq, wRd, wRx, wCr, wTab, wTr]; done) | (simp [wSub, wRun, wNar, wFil, wCan, wLst, wCar, wDr, wFl, wMq, wRd, wRx, wCr, wTab, wTr]; omega))
        replace h04 : ld M3 4 0 = 0 := by first | (rw [hM3, ld_putne (by omega)]; exact h04) | (rw [hM3, ld_same (by omega)]; omega) | (rw [hM3, ld_cpyne (by omega)]; exact h04) | (rw [hM3, ld_putL]; exact h04)
        replace t1 : ld M3 1 0 = x1 := by first | (rw [hM3, ld_putne (by omega)]; exact t1) | (rw [hM3, ld_same (by omega)]; omega) | (rw [hM3, ld_cpyne (by omega)]; exact t1) | (rw [hM3, ld_putL]; exact t1)
        have t2 : ∀ a, 0 ≤ a → a < x2 + 1 → ld M3 2 a = a := fun a h1 h2 => by
          rw [hM3, ld_put (by omega)]
          split
          · omega
          · exact i1 a h1 (by omega)
        refine uX9_restart_20 ?_
        exact ih0 _ M3 fM (by first | omega | assumption | with_reducible exact rng_ld _ _ _ | with_reducible exact rng_yand _ _ | with_reducible exact rng_yor _ _ | with_reducible exact rng_zcmp _ _ | with_reducible exact yand7 _ | with_reducible exact rng_toInt _ | with_reducible exact yarr23 (by omega) | with_reducible exact yarr57 (by omega) | with_reducible exact Or.inl rfl | with_reducible exact Or.inr rfl) (by first | assumption | exact t2 | exact (fun a h1 h2 => absurd h2 (by omega))) h04 t1 (by omega)
  refine uX9_restart_0 ?_
  intro M4 hM4
  replace fM := fr.put fM hM4 (by first | omega | (dsimp only [wSub, wRun, wNar, wFil, wCan, wLst, wCar, wDr, wFl, wMq, wRd, wRx, wCr, wTab, wTr]; done) | (dsimp only [wSub, wRun, wNar, wFil, wCan, wLst, wCar, wDr, wFl, wMq, wRd, wRx, wCr, wTab, wTr]; omega) | (simp [wSub, wRun, wNar, wFil, wCan, wLst, wCar, wDr, wFl, wMq, wRd, wRx, wCr, wTab, wTr]; done) | (simp [wSub, wRun, wNar, wFil, wCan, wLst, wCar, wDr, wFl, wMq, wRd, wRx, wCr, wTab, wTr]; omega))
  replace h04 : ld M4 4 0 = 0 := by first | (rw [hM4, ld_putne (by omega)]; exact h04) | (rw [hM4, ld_same (by omega)]; omega) | (rw [hM4, ld_cpyne (by omega)]; exact h04) | (rw [hM4, ld_putL]; exact h04)
  have t1 : ld M4 1 0 = x1 := by (rw [hM4, ld_same (by omega)]) <;> omega
  refine uX9_restart_5 ?_
  exact (go 1000000) _ M4 fM (by first | omega | assumption | with_reducible exact rng_ld _ _ _ | with_reducible exact rng_yand _ _ | with_reducible exact rng_yor _ _ | with_reducible exact rng_zcmp _ _ | with_reducible exact yand7 _ | with_reducible exact rng_toInt _ | with_reducible exact yarr23 (by omega) | with_reducible exact yarr57 (by omega) | with_reducible exact Or.inl rfl | with_reducible exact Or.inr rfl) (by first | assumption | exact t2 | exact (fun a h1 h2 => absurd h2 (by omega))) h04 t1 (by omega)
theorem c9_makeTurns {d : Nat} {Q : yM → Prop} {M : yM} {x1 : Int} {x2 : Int}  (hk : 1 ≤ ld M 1 0 ∧ ld M 1 0 ≤ 8) (hT8 : T8 M 2) (h1 : 0 ≤ x1 ∧ x1 < 8) (h2 : 0 ≤ x2 ∧ x2 < 8) (h04 : ld M 4 0 = 0) (k : ∀ (M' : yM), fr (fun o j => 2 ≤ o ∧ o ≤ 4 ∨ (o = 5 ∧ 17 ≤ j % 256 ∧ j % 16 ≠ 0)) M M' → (∀ j, ld M' 2 j = mt (ld M 2) x1 x2 j) → (ld M' 4 0 = 0) → (TSl M' 1 (al (ld M' 1 0) + 1)) → (HJA M' 1) → (OPN M') → Q M') : XCv (d + 5) 63 [.inr (.inr 1), .inl x1, .inl x2] M Q := by
  refine eX9_makeTurns ?_
  have fM : fr (fun o j => 2 ≤ o ∧ o ≤ 4 ∨ (o = 5 ∧ 17 ≤ j % 256 ∧ j % 16 ≠ 0)) M M := fr.rf
  have a1 := tabSh1.2.1
  have a2 := tabSh1.2.2.1
  have a3 := tabSh1.2.2.2.1
  have a4 := tabSh1.2.2.2.2.1
  have a5 := tabSh1.2.2.2.2.2
  have q1 := hT8 x1 h1.1 h1.2
  have q2 := hT8 x2 h2.1 h2.2
  refine uX9_makeTurns_0 (by first | omega | assumption | with_reducible exact rng_ld _ _ _ | with_reducible exact rng_yand _ _ | with_reducible exact rng_yor _ _ | with_reducible exact rng_zcmp _ _ | with_reducible exact yand7 _ | with_reducible exact rng_toInt _ | with_reducible exact yarr23 (by omega) | with_reducible exact yarr57 (by omega) | with_reducible exact Or.inl rfl | with_reducible exact Or.inr rfl) (by first | omega | assumption | with_reducible exact rng_ld _ _ _ | with_reducible exact rng_yand _ _ | with_reducible exact rng_yor _ _ | with_reducible exact rng_zcmp _ _ | with_reducible exact yand7 _ | with_reducible exact rng_toInt _ | with_reducible exact yarr23 (by omega) | with_reducible exact yarr57 (by omega) | with_reducible exact Or.inl rfl | with_reducible exact Or.inr rfl) (by first | omega | assumption | with_reducible exact rng_ld _ _ _ | with_reducible exact rng_yand _ _ | with_reducible exact rng_yor _ _ | with_reducible exact rng_zcmp _ _ | with_reducible exact yand7 _ | with_reducible exact rng_toInt _ | with_reducible exact yarr23 (by omega) | with_reducible exact yarr57 (by omega) | with_reducible exact Or.inl rfl | with_reducible exact Or.inr rfl) ?_
  intro M1 hM1
  replace fM := fr.put fM hM1 (by first | omega | (dsimp only [wSub, wRun, wNar, wFil, wCan, wLst, wCar, wDr, wFl, wMq, wRd, wRx, wCr, wTab, wTr]; done) | (dsimp only [wSub, wRun, wNar, wFil, wCan, wLst, wCar, wDr, wFl, wMq, wRd, wRx, wCr, wTab, wTr]; omega) | (simp [wSub, wRun, wNar, wFil, wCan, wLst, wCar, wDr, wFl, wMq, wRd, wRx, wCr, wTab, wTr]; done) | (simp [wSub, wRun, wNar, wFil, wCan, wLst, wCar, wDr, wFl, wMq, wRd, wRx, wCr, wTab, wTr]; omega))
  have k1_0 := fM.ld (o := 1) (j := 0) (by intro hw; first | omega | (dsimp only [wSub, wRun, wNar, wFil, wCan, wLst, wCar, wDr, wFl, wMq, wRd, wRx, wCr, wTab, wTr] at hw; omega) | (simp [wSub, wRun, wNar, wFil, wCan, wLst, wCar, wDr, wFl, wMq, wRd, wRx, wCr, wTab, wTr] at hw; done) | (simp [wSub, wRun, wNar, wFil, wCan, wLst, wCar, wDr, wFl, wMq, wRd, wRx, wCr, wTab, wTr] at hw; omega))
  replace h04 : ld M1 4 0 = 0 := by first | (rw [hM1, ld_putne (by omega)]; exact h04) | (rw [hM1, ld_same (by omega)]; omega) | (rw [hM1, ld_cpyne (by omega)]; exact h04) | (rw [hM1, ld_putL]; exact h04)
  have e0 := hM1
  refine uX9_makeTurns_22 (by first | omega | assumption | with_reducible exact rng_ld _ _ _ | with_reducible exact rng_yand _ _ | with_reducible exact rng_yor _ _ | with_reducible exact rng_zcmp _ _ | with_reducible exact yand7 _ | with_reducible exact rng_toInt _ | with_reducible exact yarr23 (by omega) | with_reducible exact yarr57 (by omega) | with_reducible exact Or.inl rfl | with_reducible exact Or.inr rfl) ?_
  intro M2 hM2
  replace fM := fr.put fM hM2 (by first | omega | (dsimp only [wSub, wRun, wNar, wFil, wCan, wLst, wCar, wDr, wFl, wMq, wRd, wRx, wCr, wTab, wTr]; done) | (dsimp only [wSub, wRun, wNar, wFil, wCan, wLst, wCar, wDr, wFl, wMq, wRd, wRx, wCr, wTab, wTr]; omega) | (simp [wSub, wRun, wNar, wFil, wCan, wLst, wCar, wDr, wFl, wMq, wRd, wRx, wCr, wTab, wTr]; done) | (simp [wSub, wRun, wNar, wFil, wCan, wLst, wCar, wDr, wFl, wMq, wRd, wRx, wCr, wTab, wTr]; omega))
  have k1_0 := fM.ld (o := 1) (j := 0) (by intro hw; first | omega | (dsimp only [wSub, wRun, wNar, wFil, wCan, wLst, wCar, wDr, wFl, wMq, wRd, wRx, wCr, wTab, wTr] at hw; omega) | (simp [wSub, wRun, wNar, wFil, wCan, wLst, wCar, wDr, wFl, wMq, wRd, wRx, wCr, wTab, wTr] at hw; done) | (simp [wSub, wRun, wNar, wFil, wCan, wLst, wCar, wDr, wFl, wMq, wRd, wRx, wCr, wTab, wTr] at hw; omega))
  replace h04 : ld M2 4 0 = 0 := by first | (rw [hM2, ld_putne (by omega)]; exact h04) | (rw [hM2, ld_same (by omega)]; omega) | (rw [hM2, ld_cpyne (by omega)]; exact h04) | (rw [hM2, ld_putL]; exact h04)
  have e1 := hM2
  refine uX9_makeTurns_31 (by first | omega | assumption | with_reducible exact rng_ld _ _ _ | with_reducible exact rng_yand _ _ | with_reducible exact rng_yor _ _ | with_reducible exact rng_zcmp _ _ | with_reducible exact yand7 _ | with_reducible exact rng_toInt _ | with_reducible exact yarr23 (by omega) | with_reducible exact yarr57 (by omega) | with_reducible exact Or.inl rfl | with_reducible exact Or.inr rfl) ?_
  intro M3 hM3
  replace fM := fr.put fM hM3 (by first | omega | (dsimp only [wSub, wRun, wNar, wFil, wCan, wLst, wCar, wDr, wFl, wMq, wRd, wRx, wCr, wTab, wTr]; done) | (dsimp only [wSub, wRun, wNar, wFil, wCan, wLst, wCar, wDr, wFl, wMq, wRd, wRx, wCr, wTab, wTr]; omega) | (simp [wSub, wRun, wNar, wFil, wCan, wLst, wCar, wDr, wFl, wMq, wRd, wRx, wCr, wTab, wTr]; done) | (simp [wSub, wRun, wNar, wFil, wCan, wLst, wCar, wDr, wFl, wMq, wRd, wRx, wCr, wTab, wTr]; omega))
  have k1_0 := fM.ld (o := 1) (j := 0) (by intro hw; first | omega | (dsimp only [wSub, wRun, wNar, wFil, wCan, wLst, wCar, wDr, wFl, wMq, wRd, wRx, wCr, wTab, wTr] at hw; omega) | (simp [wSub, wRun, wNar, wFil, wCan, wLst, wCar, wDr, wFl, wMq, wRd, wRx, wCr, wTab, wTr] at hw; done) | (simp [wSub, wRun, wNar, wFil, wCan, wLst, wCar, wDr, wFl, wMq, wRd, wRx, wCr, wTab, wTr] at hw; omega))
  replace h04 : ld M3 4 0 = 0 := by first | (rw [hM3, ld_putne (by omega)]; exact h04) | (rw [hM3, ld_same (by omega)]; omega) | (rw [hM3, ld_cpyne (by omega)]; exact h04) | (rw [hM3, ld_putL]; exact h04)
  have e2 := hM3
  refine uX9_makeTurns_38 (by first | omega | assumption | with_reducible exact rng_ld _ _ _ | with_reducible exact rng_yand _ _ | with_reducible exact rng_yor _ _ | with_reducible exact rng_zcmp _ _ | with_reducible exact yand7 _ | with_reducible exact rng_toInt _ | with_reducible exact yarr23 (by omega) | with_reducible exact yarr57 (by omega) | with_reducible exact Or.inl rfl | with_reducible exact Or.inr rfl) ?_
  intro M4 hM4
  replace fM := fr.put fM hM4 (by first | omega | (dsimp only [wSub, wRun, wNar, wFil, wCan, wLst, wCar, wDr, wFl, wMq, wRd, wRx, wCr, wTab, wTr]; done) | (dsimp only [wSub, wRun, wNar, wFil, wCan, wLst, wCar, wDr, wFl, wMq, wRd, wRx, wCr, wTab, wTr]; omega) | (simp [wSub, wRun, wNar, wFil, wCan, wLst, wCar, wDr, wFl, wMq, wRd, wRx, wCr, wTab, wTr]; done) | (simp [wSub, wRun, wNar, wFil, wCan, wLst, wCar, wDr, wFl, wMq, wRd, wRx, wCr, wTab, wTr]; omega))
  have k1_0 := fM.ld (o := 1) (j := 0) (by intro hw; first | omega | (dsimp only [wSub, wRun, wNar, wFil, wCan, wLst, wCar, wDr, wFl, wMq, wRd, wRx, wCr, wTab, wTr] at hw; omega) | (simp [wSub, wRun, wNar, wFil, wCan, wLst, wCar, wDr, wFl, wMq, wRd, wRx, wCr, wTab, wTr] at hw; done) | (simp [wSub, wRun, wNar, wFil, wCan, wLst, wCar, wDr, wFl, wMq, wRd, wRx, wCr, wTab, wTr] at hw; omega))
  replace h04 : ld M4 4 0 = 0 := by first | (rw [hM4, ld_putne (by omega)]; exact h04) | (rw [hM4, ld_same (by omega)]; omega) | (rw [hM4, ld_cpyne (by omega)]; exact h04) | (rw [hM4, ld_putL]; exact h04)
  have e3 : ∀ j, ld M4 2 j = mt (ld M 2) x1 x2 j := fun j => by
    rw [hM4, ld_put (by omega), e2, ld_put (by omega), e1, ld_put (by omega), e0, ld_put (by omega)]
    simp only [true_and]
    unfold mt
    split
    · rfl
    · split
      · rfl
      · split
        · next q => rw [if_pos (Or.inr q)]; exact q.symm
        · next q =>
          split
          · next q4 => rw [if_pos (Or.inl q4)]; exact q4.symm
          · next q4 => rw [if_neg (fun q5 => q5.elim q4 q)]
  refine uX9_makeTurns_45 ?_
  refine XC.deep (c9_freeTriangles  (d := 0) (by first | omega | assumption | with_reducible exact rng_ld _ _ _ | with_reducible exact rng_yand _ _ | with_reducible exact rng_yor _ _ | with_reducible exact rng_zcmp _ _ | with_reducible exact yand7 _ | with_reducible exact rng_toInt _ | with_reducible exact yarr23 (by omega) | with_reducible exact yarr57 (by omega) | with_reducible exact Or.inl rfl | with_reducible exact Or.inr rfl) h04 (fun j q1 q2 => by rw [e3]; exact mt_8 h1 h2 ⟨q1, q2⟩ (hT8 j q1 q2)) (fun M5 fM5 p5a p5b p5c p5d => ?_)) (by omega)
  replace fM := fM.tr fM5 (by intro o j hw; first | omega | exact hw | (dsimp only [wSub, wRun, wNar, wFil, wCan, wLst, wCar, wDr, wFl, wMq, wRd, wRx, wCr, wTab, wTr] at hw; dsimp only [wSub, wRun, wNar, wFil, wCan, wLst, wCar, wDr, wFl, wMq, wRd, wRx, wCr, wTab, wTr]; omega) | (dsimp only [wSub, wRun, wNar, wFil, wCan, wLst, wCar, wDr, wFl, wMq, wRd, wRx, wCr, wTab, wTr]; omega) | (dsimp only [wSub, wRun, wNar, wFil, wCan, wLst, wCar, wDr, wFl, wMq, wRd, wRx, wCr, wTab, wTr] at hw; omega) | (simp [wSub, wRun, wNar, wFil, wCan, wLst, wCar, wDr, wFl, wMq, wRd, wRx, wCr, wTab, wTr] at hw; simp [wSub, wRun, wNar, wFil, wCan, wLst, wCar, wDr, wFl, wMq, wRd, wRx, wCr, wTab, wTr]; omega))
  have k1_0 := fM.ld (o := 1) (j := 0) (by intro hw; first | omega | (dsimp only [wSub, wRun, wNar, wFil, wCan, wLst, wCar, wDr, wFl, wMq, wRd, wRx, wCr, wTab, wTr] at hw; omega) | (simp [wSub, wRun, wNar, wFil, wCan, wLst, wCar, wDr, wFl, wMq, wRd, wRx, wCr, wTab, wTr] at hw; done) | (simp [wSub, wRun, wNar, wFil, wCan, wLst, wCar, wDr, wFl, wMq, wRd, wRx, wCr, wTab, wTr] at hw; omega))
  replace h04 : ld M5 4 0 = 0 := by first | assumption | (rw [fM5.ld (o := 4) (j := 0) (by intro hw; first | omega | (dsimp only [wSub, wRun, wNar, wFil, wCan, wLst, wCar, wDr, wFl, wMq, wRd, wRx, wCr, wTab, wTr] at hw; omega) | (simp [wSub, wRun, wNar, wFil, wCan, wLst, wCar, wDr, wFl, wMq, wRd, wRx, wCr, wTab, wTr] at hw; done) | (simp [wSub, wRun, wNar, wFil, wCan, wLst, wCar, wDr, wFl, wMq, wRd, wRx, wCr, wTab, wTr] at hw; omega))]; exact h04) | omega | exact p5a | exact p5b | exact p5c | exact p5d
  have e4 : ∀ j, ld M5 2 j = mt (ld M 2) x1 x2 j := fun j => by rw [fM5.ld (by dsimp only [wTr]; omega)]; exact e3 j
  have z1 := p5b
  have z2 := p5c
  have z3 := p5d
  refine uX9_makeTurns_49 ?_
  exact k _ fM e4 h04 z1 z2 z3
theorem c9_setOne {d : Nat} {Q : yM → Prop} {M : yM} {x1 : Int} {x2 : Int} {x3 : Int} {x4 : Int}  (h1 : 0 ≤ x1 ∧ x1 < 8) (h2 : 0 ≤ x2 ∧ x2 < 8) (h4 : 0 ≤ x4 ∧ x4 ≤ 1) (k : ∀ (M' : yM), fr (fun o j => o = 3) M M' → (ld M' 3 = st1 (ld M 3) x1 x2 x3 x4) → Q M') : XCv d 67 [.inr (.inr 1), .inl x1, .inl x2, .inl x3, .inl x4] M Q := by
  refine eX9_setOne ?_
  have fM : fr (fun o j => o = 3) M M := fr.rf
  have a1 := tabSh1.2.1
  have a2 := tabSh1.2.2.1
  have a3 := tabSh1.2.2.2.1
  have a4 := tabSh1.2.2.2.2.1
  have a5 := tabSh1.2.2.2.2.2
  refine uX9_setOne_0 (by first | omega | assumption | with_reducible exact rng_ld _ _ _ | with_reducible exact rng_yand _ _ | with_reducible exact rng_yor _ _ | with_reducible exact rng_zcmp _ _ | with_reducible exact yand7 _ | with_reducible exact rng_toInt _ | with_reducible exact yarr23 (by omega) | with_reducible exact yarr57 (by omega) | with_reducible exact Or.inl rfl | with_reducible exact Or.inr rfl) (fun hc => ?_) (fun hc => ?_)
  · skip
    refine uX9_setOne_25 (by first | omega | assumption | with_reducible exact rng_ld _ _ _ | with_reducible exact rng_yand _ _ | with_reducible exact rng_yor _ _ | with_reducible exact rng_zcmp _ _ | with_reducible exact yand7 _ | with_reducible exact rng_toInt _ | with_reducible exact yarr23 (by omega) | with_reducible exact yarr57 (by omega) | with_reducible exact Or.inl rfl | with_reducible exact Or.inr rfl) (by first | omega | assumption | with_reducible exact rng_ld _ _ _ | with_reducible exact rng_yand _ _ | with_reducible exact rng_yor _ _ | with_reducible exact rng_zcmp _ _ | with_reducible exact yand7 _ | with_reducible exact rng_toInt _ | with_reducible exact yarr23 (by omega) | with_reducible exact yarr57 (by omega) | with_reducible exact Or.inl rfl | with_reducible exact Or.inr rfl) ?_
    intro M1 hM1
    replace fM := fr.put fM hM1 (by first | omega | (dsimp only [wSub, wRun, wNar, wFil, wCan, wLst, wCar, wDr, wFl, wMq, wRd, wRx, wCr, wTab, wTr]; done) | (dsimp only [wSub, wRun, wNar, wFil, wCan, wLst, wCar, wDr, wFl, wMq, wRd, wRx, wCr, wTab, wTr]; omega) | (simp [wSub, wRun, wNar, wFil, wCan, wLst, wCar, wDr, wFl, wMq, wRd, wRx, wCr, wTab, wTr]; done) | (simp [wSub, wRun, wNar, wFil, wCan, wLst, wCar, wDr, wFl, wMq, wRd, wRx, wCr, wTab, wTr]; omega))
    have z1 : ld M1 3 = st1 (ld M 3) x1 x2 x3 x4 := funext fun j => by
      rw [hM1, ld_put (rng_yand _ _)]
      unfold st1 sbc
      simp only [true_and]
      split
      · next q => rw [if_neg (by omega), q]
      · rfl
    refine uX9_setOne_44 ?_
    exact k _ fM z1
  · skip
    refine uX9_setOne_5 (by first | omega | assumption | with_reducible exact rng_ld _ _ _ | with_reducible exact rng_yand _ _ | with_reducible exact rng_yor _ _ | with_reducible exact rng_zcmp _ _ | with_reducible exact yand7 _ | with_reducible exact rng_toInt _ | with_reducible exact yarr23 (by omega) | with_reducible exact yarr57 (by omega) | with_reducible exact Or.inl rfl | with_reducible exact Or.inr rfl) (by first | omega | assumption | with_reducible exact rng_ld _ _ _ | with_reducible exact rng_yand _ _ | with_reducible exact rng_yor _ _ | with_reducible exact rng_zcmp _ _ | with_reducible exact yand7 _ | with_reducible exact rng_toInt _ | with_reducible exact yarr23 (by omega) | with_reducible exact yarr57 (by omega) | with_reducible exact Or.inl rfl | with_reducible exact Or.inr rfl) ?_
    intro M2 hM2
    replace fM := fr.put fM hM2 (by first | omega | (dsimp only [wSub, wRun, wNar, wFil, wCan, wLst, wCar, wDr, wFl, wMq, wRd, wRx, wCr, wTab, wTr]; done) | (dsimp only [wSub, wRun, wNar, wFil, wCan, wLst, wCar, wDr, wFl, wMq, wRd, wRx, wCr, wTab, wTr]; omega) | (simp [wSub, wRun, wNar, wFil, wCan, wLst, wCar, wDr, wFl, wMq, wRd, wRx, wCr, wTab, wTr]; done) | (simp [wSub, wRun, wNar, wFil, wCan, wLst, wCar, wDr, wFl, wMq, wRd, wRx, wCr, wTab, wTr]; omega))
    have z1 : ld M2 3 = st1 (ld M 3) x1 x2 x3 x4 := funext fun j => by
      rw [hM2, ld_put (rng_yor _ _)]
      unfold st1 sbc
      simp only [true_and]
      split
      · next q => rw [if_pos (by omega), q]
      · rfl
    refine uX9_setOne_22 ?_
    refine uX9_setOne_44 ?_
    exact k _ fM z1
theorem c9_setTriangle {d : Nat} {Q : yM → Prop} {M : yM} {x1 : Int} {x2 : Int} {x3 : Int} {x4 : Int}  (hk : 1 ≤ ld M 1 0 ∧ ld M 1 0 ≤ 8) (hT8 : T8 M 2) (h1 : 0 ≤ x1 ∧ x1 < 8) (h2 : 0 ≤ x2 ∧ x2 < 8) (h3 : 0 ≤ x3 ∧ x3 < 8) (h4 : 0 ≤ x4 ∧ x4 ≤ 1) (h04 : ld M 4 0 = 0) (k : ∀ (M' : yM), fr (wTr) M M' → (ld M' 4 0 = 0) → (TSl M' 1 (al (ld M' 1 0) + 1)) → (HJA M' 1) → (ld M' 3 = st6 (ld M 3) (ld M 2) x1 x2 x3 x4) → Q M') : XCv (d + 4) 66 [.inr (.inr 1), .inl x1, .inl x2, .inl x3, .inl x4] M Q := by
  refine eX9_setTriangle ?_
  have fM : fr (wTr) M M := fr.rf
  have a1 := tabSh1.2.1
  have a2 := tabSh1.2.2.1
  have a3 := tabSh1.2.2.2.1
  have a4 := tabSh1.2.2.2.2.1
  have a5 := tabSh1.2.2.2.2.2
  have q1 := hT8 x1 h1.1 h1.2
  have q2 := hT8 x2 h2.1 h2.2
  have q3 := hT8 x3 h3.1 h3.2
  refine uX9_setTriangle_0 (by first | omega | assumption | with_reducible exact rng_ld _ _ _ | with_reducible exact rng_yand _ _ | with_reducible exact rng_yor _ _ | with_reducible exact rng_zcmp _ _ | with_reducible exact yand7 _ | with_reducible exact rng_toInt _ | with_reducible exact yarr23 (by omega) | with_reducible exact yarr57 (by omega) | with_reducible exact Or.inl rfl | with_reducible exact Or.inr rfl) (by first | omega | assumption | with_reducible exact rng_ld _ _ _ | with_reducible exact rng_yand _ _ | with_reducible exact rng_yor _ _ | with_reducible exact rng_zcmp _ _ | with_reducible exact yand7 _ | with_reducible exact rng_toInt _ | with_reducible exact yarr23 (by omega) | with_reducible exact yarr57 (by omega) | with_reducible exact Or.inl rfl | with_reducible exact Or.inr rfl) (by first | omega | assumption | with_reducible exact rng_ld _ _ _ | with_reducible exact rng_yand _ _ | with_reducible exact rng_yor _ _ | with_reducible exact rng_zcmp _ _ | with_reducible exact yand7 _ | with_reducible exact rng_toInt _ | with_reducible exact yarr23 (by omega) | with_reducible exact yarr57 (by omega) | with_reducible exact Or.inl rfl | with_reducible exact Or.inr rfl) ?_
  refine c9_setOne  (by first | omega | assumption | with_reducible exact rng_ld _ _ _ | with_reducible exact rng_yand _ _ | with_reducible exact rng_yor _ _ | with_reducible exact rng_zcmp _ _ | with_reducible exact yand7 _ | with_reducible exact rng_toInt _ | with_reducible exact yarr23 (by omega) | with_reducible exact yarr57 (by omega) | with_reducible exact Or.inl rfl | with_reducible exact Or.inr rfl) (by first | omega | assumption | with_reducible exact rng_ld _ _ _ | with_reducible exact rng_yand _ _ | with_reducible exact rng_yor _ _ | with_reducible exact rng_zcmp _ _ | with_reducible exact yand7 _ | with_reducible exact rng_toInt _ | with_reducible exact yarr23 (by omega) | with_reducible exact yarr57 (by omega) | with_reducible exact Or.inl rfl | with_reducible exact Or.inr rfl) (by first | omega | assumption | with_reducible exact rng_ld _ _ _ | with_reducible exact rng_yand _ _ | with_reducible exact rng_yor _ _ | with_reducible exact rng_zcmp _ _ | with_reducible exact yand7 _ | with_reducible exact rng_toInt _ | with_reducible exact yarr23 (by omega) | with_reducible exact yarr57 (by omega) | with_reducible exact Or.inl rfl | with_reducible exact Or.inr rfl) (fun M1 fM1 p1a => ?_)
  replace fM := fM.tr fM1 (by intro o j hw; first | omega | exact hw | (dsimp only [wSub, wRun, wNar, wFil, wCan, wLst, wCar, wDr, wFl, wMq, wRd, wRx, wCr, wTab, wTr] at hw; dsimp only [wSub, wRun, wNar, wFil, wCan, wLst, wCar, wDr, wFl, wMq, wRd, wRx, wCr, wTab, wTr]; omega) | (dsimp only [wSub, wRun, wNar, wFil, wCan, wLst, wCar, wDr, wFl, wMq, wRd, wRx, wCr, wTab, wTr]; omega) | (dsimp only [wSub, wRun, wNar, wFil, wCan, wLst, wCar, wDr, wFl, wMq, wRd, wRx, wCr, wTab, wTr] at hw; omega) | (simp [wSub, wRun, wNar, wFil, wCan, wLst, wCar, wDr, wFl, wMq, wRd, wRx, wCr, wTab, wTr] at hw; simp [wSub, wRun, wNar, wFil, wCan, wLst, wCar, wDr, wFl, wMq, wRd, wRx, wCr, wTab, wTr]; omega))
  have k1_0 := fM.ld (o := 1) (j := 0) (by intro hw; first | omega | (dsimp only [wSub, wRun, wNar, wFil, wCan, wLst, wCar, wDr, wFl, wMq, wRd, wRx, wCr, wTab, wTr] at hw; omega) | (simp [wSub, wRun, wNar, wFil, wCan, wLst, wCar, wDr, wFl, wMq, wRd, wRx, wCr, wTab, wTr] at hw; done) | (simp [wSub, wRun, wNar, wFil, wCan, wLst, wCar, wDr, wFl, wMq, wRd, wRx, wCr, wTab, wTr] at hw; omega))
  replace h04 : ld M1 4 0 = 0 := by first | assumption | (rw [fM1.ld (o := 4) (j := 0) (by intro hw; first | omega | (dsimp only [wSub, wRun, wNar, wFil, wCan, wLst, wCar, wDr, wFl, wMq, wRd, wRx, wCr, wTab, wTr] at hw; omega) | (simp [wSub, wRun, wNar, wFil, wCan, wLst, wCar, wDr, wFl, wMq, wRd, wRx, wCr, wTab, wTr] at hw; done) | (simp [wSub, wRun, wNar, wFil, wCan, wLst, wCar, wDr, wFl, wMq, wRd, wRx, wCr, wTab, wTr] at hw; omega))]; exact h04) | omega | exact p1a
  have s0 := p1a
  refine uX9_setTriangle_33 ?_
  refine c9_setOne  (by first | omega | assumption | with_reducible exact rng_ld _ _ _ | with_reducible exact rng_yand _ _ | with_reducible exact rng_yor _ _ | with_reducible exact rng_zcmp _ _ | with_reducible exact yand7 _ | with_reducible exact rng_toInt _ | with_reducible exact yarr23 (by omega) | with_reducible exact yarr57 (by omega) | with_reducible exact Or.inl rfl | with_reducible exact Or.inr rfl) (by first | omega | assumption | with_reducible exact rng_ld _ _ _ | with_reducible exact rng_yand _ _ | with_reducible exact rng_yor _ _ | with_reducible exact rng_zcmp _ _ | with_reducible exact yand7 _ | with_reducible exact rng_toInt _ | with_reducible exact yarr23 (by omega) | with_reducible exact yarr57 (by omega) | with_reducible exact Or.inl rfl | with_reducible exact Or.inr rfl) (by first | omega | assumption | with_reducible exact rng_ld _ _ _ | with_reducible exact rng_yand _ _ | with_reducible exact rng_yor _ _ | with_reducible exact rng_zcmp _ _ | with_reducible exact yand7 _ | with_reducible exact rng_toInt _ | with_reducible exact yarr23 (by omega) | with_reducible exact yarr57 (by omega) | with_reducible exact Or.inl rfl | with_reducible exact Or.inr rfl) (fun M2 fM2 p2a => ?_)
  replace fM := fM.tr fM2 (by intro o j hw; first | omega | exact hw | (dsimp only [wSub, wRun, wNar, wFil, wCan, wLst, wCar, wDr, wFl, wMq, wRd, wRx, wCr, wTab, wTr] at hw; dsimp only [wSub, wRun, wNar, wFil, wCan, wLst, wCar, wDr, wFl, wMq, wRd, wRx, wCr, wTab, wTr]; omega) | (dsimp only [wSub, wRun, wNar, wFil, wCan, wLst, wCar, wDr, wFl, wMq, wRd, wRx, wCr, wTab, wTr]; omega) | (dsimp only [wSub, wRun, wNar, wFil, wCan, wLst, wCar, wDr, wFl, wMq, wRd, wRx, wCr, wTab, wTr] at hw; omega) | (simp [wSub, wRun, wNar, wFil, wCan, wLst, wCar, wDr, wFl, wMq, wRd, wRx, wCr, wTab, wTr] at hw; simp [wSub, wRun, wNar, wFil, wCan, wLst, wCar, wDr, wFl, wMq, wRd, wRx, wCr, wTab, wTr]; omega))
  have k1_0 := fM.ld (o := 1) (j := 0) (by intro hw; first | omega | (dsimp only [wSub, wRun, wNar, wFil, wCan, wLst, wCar, wDr, wFl, wMq, wRd, wRx, wCr, wTab, wTr] at hw; omega) | (simp [wSub, wRun, wNar, wFil, wCan, wLst, wCar, wDr, wFl, wMq, wRd, wRx, wCr, wTab, wTr] at hw; done) | (simp [wSub, wRun, wNar, wFil, wCan, wLst, wCar, wDr, wFl, wMq, wRd, wRx, wCr, wTab, wTr] at hw; omega))
  replace h04 : ld M2 4 0 = 0 := by first | assumption | (rw [fM2.ld (o := 4) (j := 0) (by intro hw; first | omega | (dsimp only [wSub, wRun, wNar, wFil, wCan, wLst, wCar, wDr, wFl, wMq, wRd, wRx, wCr, wTab, wTr] at hw; omega) | (simp [wSub, wRun, wNar, wFil, wCan, wLst, wCar, wDr, wFl, wMq, wRd, wRx, wCr, wTab, wTr] at hw; done) | (simp [wSub, wRun, wNar, wFil, wCan, wLst, wCar, wDr, wFl, wMq, wRd, wRx, wCr, wTab, wTr] at hw; omega))]; exact h04) | omega | exact p2a
  have s33 := p2a
  rw [s0] at s33
  refine uX9_setTriangle_43 ?_
  refine c9_setOne  (by first | omega | assumption | with_reducible exact rng_ld _ _ _ | with_reducible exact rng_yand _ _ | with_reducible exact rng_yor _ _ | with_reducible exact rng_zcmp _ _ | with_reducible exact yand7 _ | with_reducible exact rng_toInt _ | with_reducible exact yarr23 (by omega) | with_reducible exact yarr57 (by omega) | with_reducible exact Or.inl rfl | with_reducible exact Or.inr rfl) (by first | omega | assumption | with_reducible exact rng_ld _ _ _ | with_reducible exact rng_yand _ _ | with_reducible exact rng_yor _ _ | with_reducible exact rng_zcmp _ _ | with_reducible exact yand7 _ | with_reducible exact rng_toInt _ | with_reducible exact yarr23 (by omega) | with_reducible exact yarr57 (by omega) | with_reducible exact Or.inl rfl | with_reducible exact Or.inr rfl) (by first | omega | assumption | with_reducible exact rng_ld _ _ _ | with_reducible exact rng_yand _ _ | with_reducible exact rng_yor _ _ | with_reducible exact rng_zcmp _ _ | with_reducible exact yand7 _ | with_reducible exact rng_toInt _ | with_reducible exact yarr23 (by omega) | with_reducible exact yarr57 (by omega) | with_reducible exact Or.inl rfl | with_reducible exact Or.inr rfl) (fun M3 fM3 p3a => ?_)
  replace fM := fM.tr fM3 (by intro o j hw; first | omega | exact hw | (dsimp only [wSub, wRun, wNar, wFil, wCan, wLst, wCar, wDr, wFl, wMq, wRd, wRx, wCr, wTab, wTr] at hw; dsimp only [wSub, wRun, wNar, wFil, wCan, wLst, wCar, wDr, wFl, wMq, wRd, wRx, wCr, wTab, wTr]; omega) | (dsimp only [wSub, wRun, wNar, wFil, wCan, wLst, wCar, wDr, wFl, wMq, wRd, wRx, wCr, wTab, wTr]; omega) | (dsimp only [wSub, wRun, wNar, wFil, wCan, wLst, wCar, wDr, wFl, wMq, wRd, wRx, wCr, wTab, wTr] at hw; omega) | (simp [wSub, wRun, wNar, wFil, wCan, wLst, wCar, wDr, wFl, wMq, wRd, wRx, wCr, wTab, wTr] at hw; simp [wSub, wRun, wNar, wFil, wCan, wLst, wCar, wDr, wFl, wMq, wRd, wRx, wCr, wTab, wTr]; omega))
  have k1_0 := fM.ld (o := 1) (j := 0) (by intro hw; first | omega | (dsimp only [wSub, wRun, wNar, wFil, wCan, wLst, wCar, wDr, wFl, wMq, wRd, wRx, wCr, wTab, wTr] at hw; omega) | (simp [wSub, wRun, wNar, wFil, wCan, wLst, wCar, wDr, wFl, wMq, wRd, wRx, wCr, wTab, wTr] at hw; done) | (simp [wSub, wRun, wNar, wFil, wCan, wLst, wCar, wDr, wFl, wMq, wRd, wRx, wCr, wTab, wTr] at hw; omega))
  replace h04 : ld M3 4 0 = 0 := by first | assumption | (rw [fM3.ld (o := 4) (j := 0) (by intro hw; first | omega | (dsimp only [wSub, wRun, wNar, wFil, wCan, wLst, wCar, wDr, wFl, wMq, wRd, wRx, wCr, wTab, wTr] at hw; omega) | (simp [wSub, wRun, wNar, wFil, wCan, wLst, wCar, wDr, wFl, wMq, wRd, wRx, wCr, wTab, wTr] at hw; done) | (simp [wSub, wRun, wNar, wFil, wCan, wLst, wCar, wDr, wFl, wMq, wRd, wRx, wCr, wTab, wTr] at hw; omega))]; exact h04) | omega | exact p3a
  have s43 := p3a
  rw [s33] at s43
  refine uX9_setTriangle_53 ?_
  refine c9_setOne  (by first | omega | assumption | with_reducible exact rng_ld _ _ _ | with_reducible exact rng_yand _ _ | with_reducible exact rng_yor _ _ | with_reducible exact rng_zcmp _ _ | with_reducible exact yand7 _ | with_reducible exact rng_toInt _ | with_reducible exact yarr23 (by omega) | with_reducible exact yarr57 (by omega) | with_reducible exact Or.inl rfl | with_reducible exact Or.inr rfl) (by first | omega | assumption | with_reducible exact rng_ld _ _ _ | with_reducible exact rng_yand _ _ | with_reducible exact rng_yor _ _ | with_reducible exact rng_zcmp _ _ | with_reducible exact yand7 _ | with_reducible exact rng_toInt _ | with_reducible exact yarr23 (by omega) | with_reducible exact yarr57 (by omega) | with_reducible exact Or.inl rfl | with_reducible exact Or.inr rfl) (by first | omega | assumption | with_reducible exact rng_ld _ _ _ | with_reducible exact rng_yand _ _ | with_reducible exact rng_yor _ _ | with_reducible exact rng_zcmp _ _ | with_reducible exact yand7 _ | with_reducible exact rng_toInt _ | with_reducible exact yarr23 (by omega) | with_reducible exact yarr57 (by omega) | with_reducible exact Or.inl rfl | with_reducible exact Or.inr rfl) (fun M4 fM4 p4a => ?_)
  replace fM := fM.tr fM4 (by intro o j hw; first | omega | exact hw | (dsimp only [wSub, wRun, wNar, wFil, wCan, wLst, wCar, wDr, wFl, wMq, wRd, wRx, wCr, wTab, wTr] at hw; dsimp only [wSub, wRun, wNar, wFil, wCan, wLst, wCar, wDr, wFl, wMq, wRd, wRx, wCr, wTab, wTr]; omega) | (dsimp only [wSub, wRun, wNar, wFil, wCan, wLst, wCar, wDr, wFl, wMq, wRd, wRx, wCr, wTab, wTr]; omega) | (dsimp only [wSub, wRun, wNar, wFil, wCan, wLst, wCar, wDr, wFl, wMq, wRd, wRx, wCr, wTab, wTr] at hw; omega) | (simp [wSub, wRun, wNar, wFil, wCan, wLst, wCar, wDr, wFl, wMq, wRd, wRx, wCr, wTab, wTr] at hw; simp [wSub, wRun, wNar, wFil, wCan, wLst, wCar, wDr, wFl, wMq, wRd, wRx, wCr, wTab, wTr]; omega))
  have k1_0 := fM.ld (o := 1) (j := 0) (by intro hw; first | omega | (dsimp only [wSub, wRun, wNar, wFil, wCan, wLst, wCar, wDr, wFl, wMq, wRd, wRx, wCr, wTab, wTr] at hw; omega) | (simp [wSub, wRun, wNar, wFil, wCan, wLst, wCar, wDr, wFl, wMq, wRd, wRx, wCr, wTab, wTr] at hw; done) | (simp [wSub, wRun, wNar, wFil, wCan, wLst, wCar, wDr, wFl, wMq, wRd, wRx, wCr, wTab, wTr] at hw; omega))
  replace h04 : ld M4 4 0 = 0 := by first | assumption | (rw [fM4.ld (o := 4) (j := 0) (by intro hw; first | omega | (dsimp only [wSub, wRun, wNar, wFil, wCan, wLst, wCar, wDr, wFl, wMq, wRd, wRx, wCr, wTab, wTr] at hw; omega) | (simp [wSub, wRun, wNar, wFil, wCan, wLst, wCar, wDr, wFl, wMq, wRd, wRx, wCr, wTab, wTr] at hw; done) | (simp [wSub, wRun, wNar, wFil, wCan, wLst, wCar, wDr, wFl, wMq, wRd, wRx, wCr, wTab, wTr] at hw; omega))]; exact h04) | omega | exact p4a
  have s53 := p4a
  rw [s43] at s53
  refine uX9_setTriangle_64 ?_
  refine c9_setOne  (by first | omega | assumption | with_reducible exact rng_ld _ _ _ | with_reducible exact rng_yand _ _ | with_reducible exact rng_yor _ _ | with_reducible exact rng_zcmp _ _ | with_reducible exact yand7 _ | with_reducible exact rng_toInt _ | with_reducible exact yarr23 (by omega) | with_reducible exact yarr57 (by omega) | with_reducible exact Or.inl rfl | with_reducible exact Or.inr rfl) (by first | omega | assumption | with_reducible exact rng_ld _ _ _ | with_reducible exact rng_yand _ _ | with_reducible exact rng_yor _ _ | with_reducible exact rng_zcmp _ _ | with_reducible exact yand7 _ | with_reducible exact rng_toInt _ | with_reducible exact yarr23 (by omega) | with_reducible exact yarr57 (by omega) | with_reducible exact Or.inl rfl | with_reducible exact Or.inr rfl) (by first | omega | assumption | with_reducible exact rng_ld _ _ _ | with_reducible exact rng_yand _ _ | with_reducible exact rng_yor _ _ | with_reducible exact rng_zcmp _ _ | with_reducible exact yand7 _ | with_reducible exact rng_toInt _ | with_reducible exact yarr23 (by omega) | with_reducible exact yarr57 (by omega) | with_reducible exact Or.inl rfl | with_reducible exact Or.inr rfl) (fun M5 fM5 p5a => ?_)
  replace fM := fM.tr fM5 (by intro o j hw; first | omega | exact hw | (dsimp only [wSub, wRun, wNar, wFil, wCan, wLst, wCar, wDr, wFl, wMq, wRd, wRx, wCr, wTab, wTr] at hw; dsimp only [wSub, wRun, wNar, wFil, wCan, wLst, wCar, wDr, wFl, wMq, wRd, wRx, wCr, wTab, wTr]; omega) | (dsimp only [wSub, wRun, wNar, wFil, wCan, wLst, wCar, wDr, wFl, wMq, wRd, wRx, wCr, wTab, wTr]; omega) | (dsimp only [wSub, wRun, wNar, wFil, wCan, wLst, wCar, wDr, wFl, wMq, wRd, wRx, wCr, wTab, wTr] at hw; omega) | (simp [wSub, wRun, wNar, wFil, wCan, wLst, wCar, wDr, wFl, wMq, wRd, wRx, wCr, wTab, wTr] at hw; simp [wSub, wRun, wNar, wFil, wCan, wLst, wCar, wDr, wFl, wMq, wRd, wRx, wCr, wTab, wTr]; omega))
  have k1_0 := fM.ld (o := 1) (j := 0) (by intro hw; first | omega | (dsimp only [wSub, wRun, wNar, wFil, wCan, wLst, wCar, wDr, wFl, wMq, wRd, wRx, wCr, wTab, wTr] at hw; omega) | (simp [wSub, wRun, wNar, wFil, wCan, wLst, wCar, wDr, wFl, wMq, wRd, wRx, wCr, wTab, wTr] at hw; done) | (simp [wSub, wRun, wNar, wFil, wCan, wLst, wCar, wDr, wFl, wMq, wRd, wRx, wCr, wTab, wTr] at hw; omega))
  replace h04 : ld M5 4 0 = 0 := by first | assumption | (rw [fM5.ld (o := 4) (j := 0) (by intro hw; first | omega | (dsimp only [wSub, wRun, wNar, wFil, wCan, wLst, wCar, wDr, wFl, wMq, wRd, wRx, wCr, wTab, wTr] at hw; omega) | (simp [wSub, wRun, wNar, wFil, wCan, wLst, wCar, wDr, wFl, wMq, wRd, wRx, wCr, wTab, wTr] at hw; done) | (simp [wSub, wRun, wNar, wFil, wCan, wLst, wCar, wDr, wFl, wMq, wRd, wRx, wCr, wTab, wTr] at hw; omega))]; exact h04) | omega | exact p5a
  have s64 := p5a
  rw [s53] at s64
  refine uX9_setTriangle_75 ?_
  refine c9_setOne  (by first | omega | assumption | with_reducible exact rng_ld _ _ _ | with_reducible exact rng_yand _ _ | with_reducible exact rng_yor _ _ | with_reducible exact rng_zcmp _ _ | with_reducible exact yand7 _ | with_reducible exact rng_toInt _ | with_reducible exact yarr23 (by omega) | with_reducible exact yarr57 (by omega) | with_reducible exact Or.inl rfl | with_reducible exact Or.inr rfl) (by first | omega | assumption | with_reducible exact rng_ld _ _ _ | with_reducible exact rng_yand _ _ | with_reducible exact rng_yor _ _ | with_reducible exact rng_zcmp _ _ | with_reducible exact yand7 _ | with_reducible exact rng_toInt _ | with_reducible exact yarr23 (by omega) | with_reducible exact yarr57 (by omega) | with_reducible exact Or.inl rfl | with_reducible exact Or.inr rfl) (by first | omega | assumption | with_reducible exact rng_ld _ _ _ | with_reducible exact rng_yand _ _ | with_reducible exact rng_yor _ _ | with_reducible exact rng_zcmp _ _ | with_reducible exact yand7 _ | with_reducible exact rng_toInt _ | with_reducible exact yarr23 (by omega) | with_reducible exact yarr57 (by omega) | with_reducible exact Or.inl rfl | with_reducible exact Or.inr rfl) (fun M6 fM6 p6a => ?_)
  replace fM := fM.tr fM6 (by intro o j hw; first | omega | exact hw | (dsimp only [wSub, wRun, wNar, wFil, wCan, wLst, wCar, wDr, wFl, wMq, wRd, wRx, wCr, wTab, wTr] at hw; dsimp only [wSub, wRun, wNar, wFil, wCan, wLst, wCar, wDr, wFl, wMq, wRd, wRx, wCr, wTab, wTr]; omega) | (dsimp only [wSub, wRun, wNar, wFil, wCan, wLst, wCar, wDr, wFl, wMq, wRd, wRx, wCr, wTab, wTr]; omega) | (dsimp only [wSub, wRun, wNar, wFil, wCan, wLst, wCar, wDr, wFl, wMq, wRd, wRx, wCr, wTab, wTr] at hw; omega) | (simp [wSub, wRun, wNar, wFil, wCan, wLst, wCar, wDr, wFl, wMq, wRd, wRx, wCr, wTab, wTr] at hw; simp [wSub, wRun, wNar, wFil, wCan, wLst, wCar, wDr, wFl, wMq, wRd, wRx, wCr, wTab, wTr]; omega))
  have k1_0 := fM.ld (o := 1) (j := 0) (by intro hw; first | omega | (dsimp only [wSub, wRun, wNar, wFil, wCan, wLst, wCar, wDr, wFl, wMq, wRd, wRx, wCr, wTab, wTr] at hw; omega) | (simp [wSub, wRun, wNar, wFil, wCan, wLst, wCar, wDr, wFl, wMq, wRd, wRx, wCr, wTab, wTr] at hw; done) | (simp [wSub, wRun, wNar, wFil, wCan, wLst, wCar, wDr, wFl, wMq, wRd, wRx, wCr, wTab, wTr] at hw; omega))
  replace h04 : ld M6 4 0 = 0 := by first | assumption | (rw [fM6.ld (o := 4) (j := 0) (by intro hw; first | omega | (dsimp only [wSub, wRun, wNar, wFil, wCan, wLst, wCar, wDr, wFl, wMq, wRd, wRx, wCr, wTab, wTr] at hw; omega) | (simp [wSub, wRun, wNar, wFil, wCan, wLst, wCar, wDr, wFl, wMq, wRd, wRx, wCr, wTab, wTr] at hw; done) | (simp [wSub, wRun, wNar, wFil, wCan, wLst, wCar, wDr, wFl, wMq, wRd, wRx, wCr, wTab, wTr] at hw; omega))]; exact h04) | omega | exact p6a
  have s75 := p6a
  rw [s64] at s75
  refine uX9_setTriangle_87 ?_
  refine XC.deep (c9_prepare  (d := 0) (by first | assumption | exact tabSh1 | exact tabSh7 | exact tabSh13 | with_reducible exact yterm83 (by omega)) (by first | omega | assumption | with_reducible exact rng_ld _ _ _ | with_reducible exact rng_yand _ _ | with_reducible exact rng_yor _ _ | with_reducible exact rng_zcmp _ _ | with_reducible exact yand7 _ | with_reducible exact rng_toInt _ | with_reducible exact yarr23 (by omega) | with_reducible exact yarr57 (by omega) | with_reducible exact Or.inl rfl | with_reducible exact Or.inr rfl) h04 (T8.fr (o := 2) hT8 fM (fun _ _ _ => by (first | (dsimp only [wTr]; omega) | omega))) (fun M7 fM7 p7a p7b p7c => ?_)) (by omega)
  replace fM := fM.tr fM7 (by intro o j hw; first | omega | exact hw | (dsimp only [wSub, wRun, wNar, wFil, wCan, wLst, wCar, wDr, wFl, wMq, wRd, wRx, wCr, wTab, wTr] at hw; dsimp only [wSub, wRun, wNar, wFil, wCan, wLst, wCar, wDr, wFl, wMq, wRd, wRx, wCr, wTab, wTr]; omega) | (dsimp only [wSub, wRun, wNar, wFil, wCan, wLst, wCar, wDr, wFl, wMq, wRd, wRx, wCr, wTab, wTr]; omega) | (dsimp only [wSub, wRun, wNar, wFil, wCan, wLst, wCar, wDr, wFl, wMq, wRd, wRx, wCr, wTab, wTr] at hw; omega) | (simp [wSub, wRun, wNar, wFil, wCan, wLst, wCar, wDr, wFl, wMq, wRd, wRx, wCr, wTab, wTr] at hw; simp [wSub, wRun, wNar, wFil, wCan, wLst, wCar, wDr, wFl, wMq, wRd, wRx, wCr, wTab, wTr]; omega))
  have k1_0 := fM.ld (o := 1) (j := 0) (by intro hw; first | omega | (dsimp only [wSub, wRun, wNar, wFil, wCan, wLst, wCar, wDr, wFl, wMq, wRd, wRx, wCr, wTab, wTr] at hw; omega) | (simp [wSub, wRun, wNar, wFil, wCan, wLst, wCar, wDr, wFl, wMq, wRd, wRx, wCr, wTab, wTr] at hw; done) | (simp [wSub, wRun, wNar, wFil, wCan, wLst, wCar, wDr, wFl, wMq, wRd, wRx, wCr, wTab, wTr] at hw; omega))
  replace h04 : ld M7 4 0 = 0 := by first | assumption | (rw [fM7.ld (o := 4) (j := 0) (by intro hw; first | omega | (dsimp only [wSub, wRun, wNar, wFil, wCan, wLst, wCar, wDr, wFl, wMq, wRd, wRx, wCr, wTab, wTr] at hw; omega) | (simp [wSub, wRun, wNar, wFil, wCan, wLst, wCar, wDr, wFl, wMq, wRd, wRx, wCr, wTab, wTr] at hw; done) | (simp [wSub, wRun, wNar, wFil, wCan, wLst, wCar, wDr, wFl, wMq, wRd, wRx, wCr, wTab, wTr] at hw; omega))]; exact h04) | omega | exact p7a | exact p7b | exact p7c
  have z1 : TSl M7 1 (al (ld M7 1 0) + 1) := p7b
  have z2 := p7c
  have z3 : ld M7 3 = st6 (ld M 3) (ld M 2) x1 x2 x3 x4 := by
    rw [show ld M7 3 = ld M6 3 from funext fun j => fM7.ld (by omega), s75]
    rfl
  refine uX9_setTriangle_91 ?_
  exact k _ fM h04 z1 z2 z3
theorem c9_canFuse {d : Nat} {Q : Int → yM → Prop} {M : yM} {x1 : Int} {x2 : Int}  (hT8 : T8 M 2) (h1 : 0 ≤ x1 ∧ x1 < 8) (h2 : 0 ≤ x2 ∧ x2 < 8) (k : ∀ (v : Int), (v = 1 ∧ (ld M 2 x1 = x1 ↔ ld M 2 x2 = x2) ∧ ld M 2 x1 ≠ x2 ∨ v = 0 ∧ ¬ ((ld M 2 x1 = x1 ↔ ld M 2 x2 = x2) ∧ ld M 2 x1 ≠ x2)) → Q v M) : XCi d 75 [.inr (.inr 1), .inl x1, .inl x2] M Q := by
  refine eX9_canFuse ?_
  have a1 := tabSh1.2.1
  have a2 := tabSh1.2.2.1
  have a3 := tabSh1.2.2.2.1
  have a4 := tabSh1.2.2.2.2.1
  have a5 := tabSh1.2.2.2.2.2
  refine uX9_canFuse_0 (by first | omega | assumption | with_reducible exact rng_ld _ _ _ | with_reducible exact rng_yand _ _ | with_reducible exact rng_yor _ _ | with_reducible exact rng_zcmp _ _ | with_reducible exact yand7 _ | with_reducible exact rng_toInt _ | with_reducible exact yarr23 (by omega) | with_reducible exact yarr57 (by omega) | with_reducible exact Or.inl rfl | with_reducible exact Or.inr rfl) (by first | omega | assumption | with_reducible exact rng_ld _ _ _ | with_reducible exact rng_yand _ _ | with_reducible exact rng_yor _ _ | with_reducible exact rng_zcmp _ _ | with_reducible exact yand7 _ | with_reducible exact rng_toInt _ | with_reducible exact yarr23 (by omega) | with_reducible exact yarr57 (by omega) | with_reducible exact Or.inl rfl | with_reducible exact Or.inr rfl) (fun hc => ?_) (fun hc => ?_)
  · skip
    refine uX9_canFuse_14 ?_
    refine uX9_canFuse_15 (by first | omega | assumption | with_reducible exact rng_ld _ _ _ | with_reducible exact rng_yand _ _ | with_reducible exact rng_yor _ _ | with_reducible exact rng_zcmp _ _ | with_reducible exact yand7 _ | with_reducible exact rng_toInt _ | with_reducible exact yarr23 (by omega) | with_reducible exact yarr57 (by omega) | with_reducible exact Or.inl rfl | with_reducible exact Or.inr rfl) (by first | omega | assumption | with_reducible exact rng_ld _ _ _ | with_reducible exact rng_yand _ _ | with_reducible exact rng_yor _ _ | with_reducible exact rng_zcmp _ _ | with_reducible exact yand7 _ | with_reducible exact rng_toInt _ | with_reducible exact yarr23 (by omega) | with_reducible exact yarr57 (by omega) | with_reducible exact Or.inl rfl | with_reducible exact Or.inr rfl) (fun hc => ?_) (fun hc => ?_)
    · skip
      refine uX9_canFuse_29 ?_
      refine uX9_canFuse_30 (by first | omega | assumption | with_reducible exact rng_ld _ _ _ | with_reducible exact rng_yand _ _ | with_reducible exact rng_yor _ _ | with_reducible exact rng_zcmp _ _ | with_reducible exact yand7 _ | with_reducible exact rng_toInt _ | with_reducible exact yarr23 (by omega) | with_reducible exact yarr57 (by omega) | with_reducible exact Or.inl rfl | with_reducible exact Or.inr rfl) (by first | omega | assumption | with_reducible exact rng_ld _ _ _ | with_reducible exact rng_yand _ _ | with_reducible exact rng_yor _ _ | with_reducible exact rng_zcmp _ _ | with_reducible exact yand7 _ | with_reducible exact rng_toInt _ | with_reducible exact yarr23 (by omega) | with_reducible exact yarr57 (by omega) | with_reducible exact Or.inl rfl | with_reducible exact Or.inr rfl) (fun hc => ?_) (fun hc => ?_)
      · skip
        refine uX9_canFuse_47 ?_
        refine uX9_canFuse_48 (by first | omega | assumption | with_reducible exact rng_ld _ _ _ | with_reducible exact rng_yand _ _ | with_reducible exact rng_yor _ _ | with_reducible exact rng_zcmp _ _ | with_reducible exact yand7 _ | with_reducible exact rng_toInt _ | with_reducible exact yarr23 (by omega) | with_reducible exact yarr57 (by omega) | with_reducible exact Or.inl rfl | with_reducible exact Or.inr rfl) ?_
        exact k _ (by first | omega | assumption | with_reducible exact rng_ld _ _ _ | with_reducible exact rng_yand _ _ | with_reducible exact rng_yor _ _ | with_reducible exact rng_zcmp _ _ | with_reducible exact yand7 _ | with_reducible exact rng_toInt _ | with_reducible exact yarr23 (by omega) | with_reducible exact yarr57 (by omega) | with_reducible exact Or.inl rfl | with_reducible exact Or.inr rfl)
      · skip
        refine uX9_canFuse_33 (by first | omega | assumption | with_reducible exact rng_ld _ _ _ | with_reducible exact rng_yand _ _ | with_reducible exact rng_yor _ _ | with_reducible exact rng_zcmp _ _ | with_reducible exact yand7 _ | with_reducible exact rng_toInt _ | with_reducible exact yarr23 (by omega) | with_reducible exact yarr57 (by omega) | with_reducible exact Or.inl rfl | with_reducible exact Or.inr rfl) (by first | omega | assumption | with_reducible exact rng_ld _ _ _ | with_reducible exact rng_yand _ _ | with_reducible exact rng_yor _ _ | with_reducible exact rng_zcmp _ _ | with_reducible exact yand7 _ | with_reducible exact rng_toInt _ | with_reducible exact yarr23 (by omega) | with_reducible exact yarr57 (by omega) | with_reducible exact Or.inl rfl | with_reducible exact Or.inr rfl) (fun hc => ?_) (fun hc => ?_)
        · skip
          refine uX9_canFuse_47 ?_
          refine uX9_canFuse_48 (by first | omega | assumption | with_reducible exact rng_ld _ _ _ | with_reducible exact rng_yand _ _ | with_reducible exact rng_yor _ _ | with_reducible exact rng_zcmp _ _ | with_reducible exact yand7 _ | with_reducible exact rng_toInt _ | with_reducible exact yarr23 (by omega) | with_reducible exact yarr57 (by omega) | with_reducible exact Or.inl rfl | with_reducible exact Or.inr rfl) ?_
          exact k _ (by first | omega | assumption | with_reducible exact rng_ld _ _ _ | with_reducible exact rng_yand _ _ | with_reducible exact rng_yor _ _ | with_reducible exact rng_zcmp _ _ | with_reducible exact yand7 _ | with_reducible exact rng_toInt _ | with_reducible exact yarr23 (by omega) | with_reducible exact yarr57 (by omega) | with_reducible exact Or.inl rfl | with_reducible exact Or.inr rfl)
        · skip
          refine uX9_canFuse_43 ?_
          refine uX9_canFuse_48 (by first | omega | assumption | with_reducible exact rng_ld _ _ _ | with_reducible exact rng_yand _ _ | with_reducible exact rng_yor _ _ | with_reducible exact rng_zcmp _ _ | with_reducible exact yand7 _ | with_reducible exact rng_toInt _ | with_reducible exact yarr23 (by omega) | with_reducible exact yarr57 (by omega) | with_reducible exact Or.inl rfl | with_reducible exact Or.inr rfl) ?_
          exact k _ (by first | omega | assumption | with_reducible exact rng_ld _ _ _ | with_reducible exact rng_yand _ _ | with_reducible exact rng_yor _ _ | with_reducible exact rng_zcmp _ _ | with_reducible exact yand7 _ | with_reducible exact rng_toInt _ | with_reducible exact yarr23 (by omega) | with_reducible exact yarr57 (by omega) | with_reducible exact Or.inl rfl | with_reducible exact Or.inr rfl)
    · skip
      refine uX9_canFuse_25 ?_
      refine uX9_canFuse_30 (by first | omega | assumption | with_reducible exact rng_ld _ _ _ | with_reducible exact rng_yand _ _ | with_reducible exact rng_yor _ _ | with_reducible exact rng_zcmp _ _ | with_reducible exact yand7 _ | with_reducible exact rng_toInt _ | with_reducible exact yarr23 (by omega) | with_reducible exact yarr57 (by omega) | with_reducible exact Or.inl rfl | with_reducible exact Or.inr rfl) (by first | omega | assumption | with_reducible exact rng_ld _ _ _ | with_reducible exact rng_yand _ _ | with_reducible exact rng_yor _ _ | with_reducible exact rng_zcmp _ _ | with_reducible exact yand7 _ | with_reducible exact rng_toInt _ | with_reducible exact yarr23 (by omega) | with_reducible exact yarr57 (by omega) | with_reducible exact Or.inl rfl | with_reducible exact Or.inr rfl) (fun hc => ?_) (fun hc => ?_)
      · skip
        refine uX9_canFuse_47 ?_
        refine uX9_canFuse_48 (by first | omega | assumption | with_reducible exact rng_ld _ _ _ | with_reducible exact rng_yand _ _ | with_reducible exact rng_yor _ _ | with_reducible exact rng_zcmp _ _ | with_reducible exact yand7 _ | with_reducible exact rng_toInt _ | with_reducible exact yarr23 (by omega) | with_reducible exact yarr57 (by omega) | with_reducible exact Or.inl rfl | with_reducible exact Or.inr rfl) ?_
        exact k _ (by first | omega | assumption | with_reducible exact rng_ld _ _ _ | with_reducible exact rng_yand _ _ | with_reducible exact rng_yor _ _ | with_reducible exact rng_zcmp _ _ | with_reducible exact yand7 _ | with_reducible exact rng_toInt _ | with_reducible exact yarr23 (by omega) | with_reducible exact yarr57 (by omega) | with_reducible exact Or.inl rfl | with_reducible exact Or.inr rfl)
      · skip
        refine uX9_canFuse_33 (by first | omega | assumption | with_reducible exact rng_ld _ _ _ | with_reducible exact rng_yand _ _ | with_reducible exact rng_yor _ _ | with_reducible exact rng_zcmp _ _ | with_reducible exact yand7 _ | with_reducible exact rng_toInt _ | with_reducible exact yarr23 (by omega) | with_reducible exact yarr57 (by omega) | with_reducible exact Or.inl rfl | with_reducible exact Or.inr rfl) (by first | omega | assumption | with_reducible exact rng_ld _ _ _ | with_reducible exact rng_yand _ _ | with_reducible exact rng_yor _ _ | with_reducible exact rng_zcmp _ _ | with_reducible exact yand7 _ | with_reducible exact rng_toInt _ | with_reducible exact yarr23 (by omega) | with_reducible exact yarr57 (by omega) | with_reducible exact Or.inl rfl | with_reducible exact Or.inr rfl) (fun hc => ?_) (fun hc => ?_)
        · skip
          refine uX9_canFuse_47 ?_
          refine uX9_canFuse_48 (by first | omega | assumption | with_reducible exact rng_ld _ _ _ | with_reducible exact rng_yand _ _ | with_reducible exact rng_yor _ _ | with_reducible exact rng_zcmp _ _ | with_reducible exact yand7 _ | with_reducible exact rng_toInt _ | with_reducible exact yarr23 (by omega) | with_reducible exact yarr57 (by omega) | with_reducible exact Or.inl rfl | with_reducible exact Or.inr rfl) ?_
          exact k _ (by first | omega | assumption | with_reducible exact rng_ld _ _ _ | with_reducible exact rng_yand _ _ | with_reducible exact rng_yor _ _ | with_reducible exact rng_zcmp _ _ | with_reducible exact yand7 _ | with_reducible exact rng_toInt _ | with_reducible exact yarr23 (by omega) | with_reducible exact yarr57 (by omega) | with_reducible exact Or.inl rfl | with_reducible exact Or.inr rfl)
        · skip
          refine uX9_canFuse_43 ?_
          refine uX9_canFuse_48 (by first | omega | assumption | with_reducible exact rng_ld _ _ _ | with_reducible exact rng_yand _ _ | with_reducible exact rng_yor _ _ | with_reducible exact rng_zcmp _ _ | with_reducible exact yand7 _ | with_reducible exact rng_toInt _ | with_reducible exact yarr23 (by omega) | with_reducible exact yarr57 (by omega) | with_reducible exact Or.inl rfl | with_reducible exact Or.inr rfl) ?_
          exact k _ (by first | omega | assumption | with_reducible exact rng_ld _ _ _ | with_reducible exact rng_yand _ _ | with_reducible exact rng_yor _ _ | with_reducible exact rng_zcmp _ _ | with_reducible exact yand7 _ | with_reducible exact rng_toInt _ | with_reducible exact yarr23 (by omega) | with_reducible exact yarr57 (by omega) | with_reducible exact Or.inl rfl | with_reducible exact Or.inr rfl)
  · skip
    refine uX9_canFuse_10 ?_
    refine uX9_canFuse_15 (by first | omega | assumption | with_reducible exact rng_ld _ _ _ | with_reducible exact rng_yand _ _ | with_reducible exact rng_yor _ _ | with_reducible exact rng_zcmp _ _ | with_reducible exact yand7 _ | with_reducible exact rng_toInt _ | with_reducible exact yarr23 (by omega) | with_reducible exact yarr57 (by omega) | with_reducible exact Or.inl rfl | with_reducible exact Or.inr rfl) (by first | omega | assumption | with_reducible exact rng_ld _ _ _ | with_reducible exact rng_yand _ _ | with_reducible exact rng_yor _ _ | with_reducible exact rng_zcmp _ _ | with_reducible exact yand7 _ | with_reducible exact rng_toInt _ | with_reducible exact yarr23 (by omega) | with_reducible exact yarr57 (by omega) | with_reducible exact Or.inl rfl | with_reducible exact Or.inr rfl) (fun hc => ?_) (fun hc => ?_)
    · skip
      refine uX9_canFuse_29 ?_
      refine uX9_canFuse_30 (by first | omega | assumption | with_reducible exact rng_ld _ _ _ | with_reducible exact rng_yand _ _ | with_reducible exact rng_yor _ _ | with_reducible exact rng_zcmp _ _ | with_reducible exact yand7 _ | with_reducible exact rng_toInt _ | with_reducible exact yarr23 (by omega) | with_reducible exact yarr57 (by omega) | with_reducible exact Or.inl rfl | with_reducible exact Or.inr rfl) (by first | omega | assumption | with_reducible exact rng_ld _ _ _ | with_reducible exact rng_yand _ _ | with_reducible exact rng_yor _ _ | with_reducible exact rng_zcmp _ _ | with_reducible exact yand7 _ | with_reducible exact rng_toInt _ | with_reducible exact yarr23 (by omega) | with_reducible exact yarr57 (by omega) | with_reducible exact Or.inl rfl | with_reducible exact Or.inr rfl) (fun hc => ?_) (fun hc => ?_)
      · skip
        refine uX9_canFuse_47 ?_
        refine uX9_canFuse_48 (by first | omega | assumption | with_reducible exact rng_ld _ _ _ | with_reducible exact rng_yand _ _ | with_reducible exact rng_yor _ _ | with_reducible exact rng_zcmp _ _ | with_reducible exact yand7 _ | with_reducible exact rng_toInt _ | with_reducible exact yarr23 (by omega) | with_reducible exact yarr57 (by omega) | with_reducible exact Or.inl rfl | with_reducible exact Or.inr rfl) ?_
        exact k _ (by first | omega | assumption | with_reducible exact rng_ld _ _ _ | with_reducible exact rng_yand _ _ | with_reducible exact rng_yor _ _ | with_reducible exact rng_zcmp _ _ | with_reducible exact yand7 _ | with_reducible exact rng_toInt _ | with_reducible exact yarr23 (by omega) | with_reducible exact yarr57 (by omega) | with_reducible exact Or.inl rfl | with_reducible exact Or.inr rfl)
      · skip
        refine uX9_canFuse_33 (by first | omega | assumption | with_reducible exact rng_ld _ _ _ | with_reducible exact rng_yand _ _ | with_reducible exact rng_yor _ _ | with_reducible exact rng_zcmp _ _ | with_reducible exact yand7 _ | with_reducible exact rng_toInt _ | with_reducible exact yarr23 (by omega) | with_reducible exact yarr57 (by omega) | with_reducible exact Or.inl rfl | with_reducible exact Or.inr rfl) (by first | omega | assumption | with_reducible exact rng_ld _ _ _ | with_reducible exact rng_yand _ _ | with_reducible exact rng_yor _ _ | with_reducible exact rng_zcmp _ _ | with_reducible exact yand7 _ | with_reducible exact rng_toInt _ | with_reducible exact yarr23 (by omega) | with_reducible exact yarr57 (by omega) | with_reducible exact Or.inl rfl | with_reducible exact Or.inr rfl) (fun hc => ?_) (fun hc => ?_)
        · skip
          refine uX9_canFuse_47 ?_
          refine uX9_canFuse_48 (by first | omega | assumption | with_reducible exact rng_ld _ _ _ | with_reducible exact rng_yand _ _ | with_reducible exact rng_yor _ _ | with_reducible exact rng_zcmp _ _ | with_reducible exact yand7 _ | with_reducible exact rng_toInt _ | with_reducible exact yarr23 (by omega) | with_reducible exact yarr57 (by omega) | with_reducible exact Or.inl rfl | with_reducible exact Or.inr rfl) ?_
          exact k _ (by first | omega | assumption | with_reducible exact rng_ld _ _ _ | with_reducible exact rng_yand _ _ | with_reducible exact rng_yor _ _ | with_reducible exact rng_zcmp _ _ | with_reducible exact yand7 _ | with_reducible exact rng_toInt _ | with_reducible exact yarr23 (by omega) | with_reducible exact yarr57 (by omega) | with_reducible exact Or.inl rfl | with_reducible exact Or.inr rfl)
        · skip
          refine uX9_canFuse_43 ?_
          refine uX9_canFuse_48 (by first | omega | assumption | with_reducible exact rng_ld _ _ _ | with_reducible exact rng_yand _ _ | with_reducible exact rng_yor _ _ | with_reducible exact rng_zcmp _ _ | with_reducible exact yand7 _ | with_reducible exact rng_toInt _ | with_reducible exact yarr23 (by omega) | with_reducible exact yarr57 (by omega) | with_reducible exact Or.inl rfl | with_reducible exact Or.inr rfl) ?_
          exact k _ (by first | omega | assumption | with_reducible exact rng_ld _ _ _ | with_reducible exact rng_yand _ _ | with_reducible exact rng_yor _ _ | with_reducible exact rng_zcmp _ _ | with_reducible exact yand7 _ | with_reducible exact rng_toInt _ | with_reducible exact yarr23 (by omega) | with_reducible exact yarr57 (by omega) | with_reducible exact Or.inl rfl | with_reducible exact Or.inr rfl)
    · skip
      refine uX9_canFuse_25 ?_
      refine uX9_canFuse_30 (by first | omega | assumption | with_reducible exact rng_ld _ _ _ | with_reducible exact rng_yand _ _ | with_reducible exact rng_yor _ _ | with_reducible exact rng_zcmp _ _ | with_reducible exact yand7 _ | with_reducible exact rng_toInt _ | with_reducible exact yarr23 (by omega) | with_reducible exact yarr57 (by omega) | with_reducible exact Or.inl rfl | with_reducible exact Or.inr rfl) (by first | omega | assumption | with_reducible exact rng_ld _ _ _ | with_reducible exact rng_yand _ _ | with_reducible exact rng_yor _ _ | with_reducible exact rng_zcmp _ _ | with_reducible exact yand7 _ | with_reducible exact rng_toInt _ | with_reducible exact yarr23 (by omega) | with_reducible exact yarr57 (by omega) | with_reducible exact Or.inl rfl | with_reducible exact Or.inr rfl) (fun hc => ?_) (fun hc => ?_)
      · skip
        refine uX9_canFuse_47 ?_
        refine uX9_canFuse_48 (by first | omega | assumption | with_reducible exact rng_ld _ _ _ | with_reducible exact rng_yand _ _ | with_reducible exact rng_yor _ _ | with_reducible exact rng_zcmp _ _ | with_reducible exact yand7 _ | with_reducible exact rng_toInt _ | with_reducible exact yarr23 (by omega) | with_reducible exact yarr57 (by omega) | with_reducible exact Or.inl rfl | with_reducible exact Or.inr rfl) ?_
        exact k _ (by first | omega | assumption | with_reducible exact rng_ld _ _ _ | with_reducible exact rng_yand _ _ | with_reducible exact rng_yor _ _ | with_reducible exact rng_zcmp _ _ | with_reducible exact yand7 _ | with_reducible exact rng_toInt _ | with_reducible exact yarr23 (by omega) | with_reducible exact yarr57 (by omega) | with_reducible exact Or.inl rfl | with_reducible exact Or.inr rfl)
      · skip
        refine uX9_canFuse_33 (by first | omega | assumption | with_reducible exact rng_ld _ _ _ | with_reducible exact rng_yand _ _ | with_reducible exact rng_yor _ _ | with_reducible exact rng_zcmp _ _ | with_reducible exact yand7 _ | with_reducible exact rng_toInt _ | with_reducible exact yarr23 (by omega) | with_reducible exact yarr57 (by omega) | with_reducible exact Or.inl rfl | with_reducible exact Or.inr rfl) (by first | omega | assumption | with_reducible exact rng_ld _ _ _ | with_reducible exact rng_yand _ _ | with_reducible exact rng_yor _ _ | with_reducible exact rng_zcmp _ _ | with_reducible exact yand7 _ | with_reducible exact rng_toInt _ | with_reducible exact yarr23 (by omega) | with_reducible exact yarr57 (by omega) | with_reducible exact Or.inl rfl | with_reducible exact Or.inr rfl) (fun hc => ?_) (fun hc => ?_)
        · skip
          refine uX9_canFuse_47 ?_
          refine uX9_canFuse_48 (by first | omega | assumption | with_reducible exact rng_ld _ _ _ | with_reducible exact rng_yand _ _ | with_reducible exact rng_yor _ _ | with_reducible exact rng_zcmp _ _ | with_reducible exact yand7 _ | with_reducible exact rng_toInt _ | with_reducible exact yarr23 (by omega) | with_reducible exact yarr57 (by omega) | with_reducible exact Or.inl rfl | with_reducible exact Or.inr rfl) ?_
          exact k _ (by first | omega | assumption | with_reducible exact rng_ld _ _ _ | with_reducible exact rng_yand _ _ | with_reducible exact rng_yor _ _ | with_reducible exact rng_zcmp _ _ | with_reducible exact yand7 _ | with_reducible exact rng_toInt _ | with_reducible exact yarr23 (by omega) | with_reducible exact yarr57 (by omega) | with_reducible exact Or.inl rfl | with_reducible exact Or.inr rfl)
        · skip
          refine uX9_canFuse_43 ?_
          refine uX9_canFuse_48 (by first | omega | assumption | with_reducible exact rng_ld _ _ _ | with_reducible exact rng_yand _ _ | with_reducible exact rng_yor _ _ | with_reducible exact rng_zcmp _ _ | with_reducible exact yand7 _ | with_reducible exact rng_toInt _ | with_reducible exact yarr23 (by omega) | with_reducible exact yarr57 (by omega) | with_reducible exact Or.inl rfl | with_reducible exact Or.inr rfl) ?_
          exact k _ (by first | omega | assumption | with_reducible exact rng_ld _ _ _ | with_reducible exact rng_yand _ _ | with_reducible exact rng_yor _ _ | with_reducible exact rng_zcmp _ _ | with_reducible exact yand7 _ | with_reducible exact rng_toInt _ | with_reducible exact yarr23 (by omega) | with_reducible exact yarr57 (by omega) | with_reducible exact Or.inl rfl | with_reducible exact Or.inr rfl)
theorem c9_renamed {d : Nat} {Q : Int → yM → Prop} {M : yM} {x1 : Int}   (k : ∀ (v : Int), (v = rO (ld M 6) x1 8) → Q v M) : XCi d 77 [.inr (.inr 1), .inl x1] M Q := by
  refine eX9_renamed ?_
  have a1 := tabSh1.2.1
  have a2 := tabSh1.2.2.1
  have a3 := tabSh1.2.2.2.1
  have a4 := tabSh1.2.2.2.2.1
  have a5 := tabSh1.2.2.2.2.2
  have go : ∀ N : Nat, (∀ (x2 : Int) (x3 : Int), (0 ≤ x3 ∧ x3 ≤ 8) → (x2 = rO (ld M 6) x1 x3.toNat) → (8 - x3 < (N : Int)) → XW kX9_renamed d (some .int) (wQi Q) 4 [some (.inr (.inr 1)), some (.inl x1), some (.inl x2), some (.inl x3)] [] M) := by
    intro N
    induction N with
    | zero => intros; exfalso; omega
    | succ N ih =>
      have ih0 := ih
      skip
      intro x2 x3 i0 i1 hm
      refine uX9_renamed_4 (by first | omega | assumption | with_reducible exact rng_ld _ _ _ | with_reducible exact rng_yand _ _ | with_reducible exact rng_yor _ _ | with_reducible exact rng_zcmp _ _ | with_reducible exact yand7 _ | with_reducible exact rng_toInt _ | with_reducible exact yarr23 (by omega) | with_reducible exact yarr57 (by omega) | with_reducible exact Or.inl rfl | with_reducible exact Or.inr rfl) (fun hc => ?_) (fun hc => ?_)
      · skip
        refine uX9_renamed_36 ?_
        exact k _ (by rw [show (8 : Nat) = x3.toNat by omega]; exact i1)
      · skip
        refine uX9_renamed_10 (fun hc => ?_) (fun hc => ?_)
        · skip
          refine uX9_renamed_30 ?_
          exact ih0 _ _  (by first | omega | assumption | with_reducible exact rng_ld _ _ _ | with_reducible exact rng_yand _ _ | with_reducible exact rng_yor _ _ | with_reducible exact rng_zcmp _ _ | with_reducible exact yand7 _ | with_reducible exact rng_toInt _ | with_reducible exact yarr23 (by omega) | with_reducible exact yarr57 (by omega) | with_reducible exact Or.inl rfl | with_reducible exact Or.inr rfl) (by first | exact (rO_s (by omega) i1 (by assumption)) | exact (rO_n (by omega) i1 (by assumption)) | rfl) (by omega)
        · skip
          refine uX9_renamed_19 (by first | omega | assumption | with_reducible exact rng_ld _ _ _ | with_reducible exact rng_yand _ _ | with_reducible exact rng_yor _ _ | with_reducible exact rng_zcmp _ _ | with_reducible exact yand7 _ | with_reducible exact rng_toInt _ | with_reducible exact yarr23 (by omega) | with_reducible exact yarr57 (by omega) | with_reducible exact Or.inl rfl | with_reducible exact Or.inr rfl) ?_
          refine uX9_renamed_30 ?_
          exact ih0 _ _  (by first | omega | assumption | with_reducible exact rng_ld _ _ _ | with_reducible exact rng_yand _ _ | with_reducible exact rng_yor _ _ | with_reducible exact rng_zcmp _ _ | with_reducible exact yand7 _ | with_reducible exact rng_toInt _ | with_reducible exact yarr23 (by omega) | with_reducible exact yarr57 (by omega) | with_reducible exact Or.inl rfl | with_reducible exact Or.inr rfl) (by first | exact (rO_s (by omega) i1 (by assumption)) | exact (rO_n (by omega) i1 (by assumption)) | rfl) (by omega)
  refine uX9_renamed_0 ?_
  exact (go 1000000) _ _  (by first | omega | assumption | with_reducible exact rng_ld _ _ _ | with_reducible exact rng_yand _ _ | with_reducible exact rng_yor _ _ | with_reducible exact rng_zcmp _ _ | with_reducible exact yand7 _ | with_reducible exact rng_toInt _ | with_reducible exact yarr23 (by omega) | with_reducible exact yarr57 (by omega) | with_reducible exact Or.inl rfl | with_reducible exact Or.inr rfl) (by first | exact (rO_s (by omega) i1 (by assumption)) | exact (rO_n (by omega) i1 (by assumption)) | rfl) (by omega)
theorem c9_paired {d : Nat} {Q : Int → yM → Prop} {M : yM} {x0 : Int} {x1 : Int} {x2 : Int}   (k : ∀ (v : Int), (v = pO x0 x1 x2 8) → Q v M) : XCi d 79 [.inl x0, .inl x1, .inl x2] M Q := by
  refine eX9_paired ?_
  have go : ∀ N : Nat, (∀ (x3 : Int) (x4 : Int), (0 ≤ x4 ∧ x4 ≤ 8) → (x3 = pO x0 x1 x2 x4.toNat) → (8 - x4 < (N : Int)) → XW kX9_paired d (some .int) (wQi Q) 5 [some (.inl x0), some (.inl x1), some (.inl x2), some (.inl x3), some (.inl x4)] [] M) := by
    intro N
    induction N with
    | zero => intros; exfalso; omega
    | succ N ih =>
      have ih0 := ih
      skip
      intro x3 x4 i0 i1 hm
      refine uX9_paired_5 (by first | omega | assumption | with_reducible exact rng_ld _ _ _ | with_reducible exact rng_yand _ _ | with_reducible exact rng_yor _ _ | with_reducible exact rng_zcmp _ _ | with_reducible exact yand7 _ | with_reducible exact rng_toInt _ | with_reducible exact yarr23 (by omega) | with_reducible exact yarr57 (by omega) | with_reducible exact Or.inl rfl | with_reducible exact Or.inr rfl) (fun hc => ?_) (fun hc => ?_)
      · skip
        refine uX9_paired_37 ?_
        exact k _ (by rw [show (8 : Nat) = x4.toNat by omega]; exact i1)
      · skip
        refine uX9_paired_12 (fun hc => ?_) (fun hc => ?_)
        · skip
          refine uX9_paired_31 ?_
          exact ih0 _ _  (by first | omega | assumption | with_reducible exact rng_ld _ _ _ | with_reducible exact rng_yand _ _ | with_reducible exact rng_yor _ _ | with_reducible exact rng_zcmp _ _ | with_reducible exact yand7 _ | with_reducible exact rng_toInt _ | with_reducible exact yarr23 (by omega) | with_reducible exact yarr57 (by omega) | with_reducible exact Or.inl rfl | with_reducible exact Or.inr rfl) (by first | exact (pO_s (by omega) i1 (by assumption)) | exact (pO_n (by omega) i1 (by assumption)) | rfl) (by omega)
        · skip
          refine uX9_paired_22 ?_
          refine uX9_paired_31 ?_
          exact ih0 _ _  (by first | omega | assumption | with_reducible exact rng_ld _ _ _ | with_reducible exact rng_yand _ _ | with_reducible exact rng_yor _ _ | with_reducible exact rng_zcmp _ _ | with_reducible exact yand7 _ | with_reducible exact rng_toInt _ | with_reducible exact yarr23 (by omega) | with_reducible exact yarr57 (by omega) | with_reducible exact Or.inl rfl | with_reducible exact Or.inr rfl) (by first | exact (pO_s (by omega) i1 (by assumption)) | exact (pO_n (by omega) i1 (by assumption)) | rfl) (by omega)
  refine uX9_paired_0 ?_
  exact (go 1000000) _ _  (by first | omega | assumption | with_reducible exact rng_ld _ _ _ | with_reducible exact rng_yand _ _ | with_reducible exact rng_yor _ _ | with_reducible exact rng_zcmp _ _ | with_reducible exact yand7 _ | with_reducible exact rng_toInt _ | with_reducible exact yarr23 (by omega) | with_reducible exact yarr57 (by omega) | with_reducible exact Or.inl rfl | with_reducible exact Or.inr rfl) (by first | exact (pO_s (by omega) i1 (by assumption)) | exact (pO_n (by omega) i1 (by assumption)) | rfl) (by omega)
/-- the first of three for which P, as a number; or -9 -/
def FLT (P : Int → Int → Int → Prop) (k v : Int) : Prop := (v = -9 ∧ ∀ a b c : Int, 0 ≤ a → a < k → 0 ≤ b → b < k → 0 ≤ c → c < k → ¬ P a b c) ∨ ∃ a b c : Int, (0 ≤ a ∧ a < k) ∧ (0 ≤ b ∧ b < k) ∧ (0 ≤ c ∧ c < k) ∧ v = 64 * a + 8 * b + c ∧ P a b c ∧ ∀ a' b' c' : Int, 0 ≤ a' → a' < k → 0 ≤ b' → b' < k → 0 ≤ c' → c' < k → 64 * a' + 8 * b' + c' < v → ¬ P a' b' c'
theorem FLT.uq {P P' : Int → Int → Int → Prop} {k v v' : Int} (h : FLT P k v) (h' : FLT P' k v') (e : ∀ a b c : Int, 0 ≤ a → a < k → 0 ≤ b → b < k → 0 ≤ c → c < k → (P a b c ↔ P' a b c)) : v = v' := by
  rcases h with ⟨h1, h2⟩ | ⟨a, b, c, ha, hb, hc, hv, hp, hm⟩
  · rcases h' with ⟨g1, g2⟩ | ⟨a', b', c', ga, gb, gc, gv, gp, gm⟩
    · rw [h1, g1]
    · exact absurd ((e a' b' c' ga.1 ga.2 gb.1 gb.2 gc.1 gc.2).mpr gp) (h2 a' b' c' ga.1 ga.2 gb.1 gb.2 gc.1 gc.2)
  · rcases h' with ⟨g1, g2⟩ | ⟨a', b', c', ga, gb, gc, gv, gp, gm⟩
    · exact absurd ((e a b c ha.1 ha.2 hb.1 hb.2 hc.1 hc.2).mp hp) (g2 a b c ha.1 ha.2 hb.1 hb.2 hc.1 hc.2)
    · rcases Int.lt_trichotomy v v' with q | q | q
      · exact absurd ((e a b c ha.1 ha.2 hb.1 hb.2 hc.1 hc.2).mp hp) (gm a b c ha.1 ha.2 hb.1 hb.2 hc.1 hc.2 (by omega))
      · exact q
      · exact absurd ((e a' b' c' ga.1 ga.2 gb.1 gb.2 gc.1 gc.2).mpr gp) (hm a' b' c' ga.1 ga.2 gb.1 gb.2 gc.1 gc.2 (by omega))
def NF3 (P : Int → Int → Int → Prop) (k n : Int) : Prop := ∀ a b c : Int, 0 ≤ a → a < k → 0 ≤ b → b < k → 0 ≤ c → c < k → 64 * a + 8 * b + c < n → ¬ P a b c
theorem NF3.z {P : Int → Int → Int → Prop} {k : Int} : NF3 P k 0 := fun a b c _ _ _ _ _ _ h => absurd h (by omega)
theorem NF3.up {P : Int → Int → Int → Prop} {k n n' : Int} (h : NF3 P k n) (hn : ∀ a b c : Int, 0 ≤ a → a < k → 0 ≤ b → b < k → 0 ≤ c → c < k → 64 * a + 8 * b + c < n' → 64 * a + 8 * b + c < n) : NF3 P k n' := fun a b c a1 a2 b1 b2 c1 c2 q => h a b c a1 a2 b1 b2 c1 c2 (hn a b c a1 a2 b1 b2 c1 c2 q)
theorem NF3.s {P : Int → Int → Int → Prop} {k a b c : Int} (hk : k ≤ 8) (ha : 0 ≤ a ∧ a < k) (hb : 0 ≤ b ∧ b < k) (hc : 0 ≤ c ∧ c < k) (h : NF3 P k (64 * a + 8 * b + c)) (q : ¬ P a b c) : NF3 P k (64 * a + 8 * b + (c + 1)) := fun a' b' c' a1 a2 b1 b2 c1 c2 w => by
  by_cases e : a' = a ∧ b' = b ∧ c' = c
  · rw [e.1, e.2.1, e.2.2]; exact q
  · exact h a' b' c' a1 a2 b1 b2 c1 c2 (by omega)
theorem NF3.end {P : Int → Int → Int → Prop} {k n : Int} (hk : k ≤ 8) (h : NF3 P k n) (hn : 64 * k ≤ n) : FLT P k (-9) := Or.inl ⟨rfl, fun a b c a1 a2 b1 b2 c1 c2 => h a b c a1 a2 b1 b2 c1 c2 (by omega)⟩
theorem NF3.at {P : Int → Int → Int → Prop} {k a b c : Int} (ha : 0 ≤ a ∧ a < k) (hb : 0 ≤ b ∧ b < k) (hc : 0 ≤ c ∧ c < k) (h : NF3 P k (64 * a + 8 * b + c)) (q : P a b c) : FLT P k (64 * a + 8 * b + c) := Or.inr ⟨a, b, c, ha, hb, hc, rfl, q, h⟩
def PFa (M : yM) (a b c : Int) : Prop := jn M (ld M 3 (8 * a + b)) (yshl 1 c) ≠ jn M (yshl 1 a) (ld M 3 (8 * b + c))
theorem jn_rng (M : yM) (a b : Int) : -2147483648 ≤ jn M a b ∧ jn M a b < 2147483648 := by unfold jn; exact rng_yor _ _
theorem c9_firstFault {d : Nat} {Q : Int → yM → Prop} {M : yM}   (hk : 1 ≤ ld M 1 0 ∧ ld M 1 0 ≤ 8) (k : ∀ (v : Int), (FLT (PFa M) (ld M 1 0) v) → Q v M) : XCi (d + 1) 72 [.inr (.inr 1)] M Q := by
  refine eX9_firstFault ?_
  have a1 := tabSh1.2.1
  have a2 := tabSh1.2.2.1
  have a3 := tabSh1.2.2.2.1
  have a4 := tabSh1.2.2.2.2.1
  have a5 := tabSh1.2.2.2.2.2
  have go : ∀ N : Nat, (∀ (x1 : Int) (wx2 : Option yV) (wx3 : Option yV) (wx4 : Option yV) (wx5 : Option yV), (0 ≤ x1 ∧ x1 ≤ 8) → (NF3 (PFa M) (ld M 1 0) (64 * x1)) → ((8 - x1) * 10000 + 5000 < (N : Int)) → XW kX9_firstFault (d + 1) (some .int) (wQi Q) 2 [some (.inr (.inr 1)), some (.inl x1), wx2, wx3, wx4, wx5] [] M) ∧ (∀ (x1 : Int) (x2 : Int) (wx3 : Option yV) (wx4 : Option yV) (wx5 : Option yV), (0 ≤ x1 ∧ x1 < 8) → (0 ≤ x2 ∧ x2 ≤ 8) → (NF3 (PFa M) (ld M 1 0) (64 * x1 + 8 * x2)) → (x1 < ld M 1 0) → ((8 - x1) * 10000 + (8 - x2) * 100 + 50 < (N : Int)) → XW kX9_firstFault (d + 1) (some .int) (wQi Q) 12 [some (.inr (.inr 1)), some (.inl x1), some (.inl x2), wx3, wx4, wx5] [] M) ∧ (∀ (x1 : Int) (x2 : Int) (x3 : Int) (wx4 : Option yV) (wx5 : Option yV), (0 ≤ x1 ∧ x1 < 8) → (0 ≤ x2 ∧ x2 < 8) → (0 ≤ x3 ∧ x3 ≤ 8) → (NF3 (PFa M) (ld M 1 0) (64 * x1 + 8 * x2 + x3)) → (x1 < ld M 1 0) → (x2 < ld M 1 0) → ((8 - x1) * 10000 + (8 - x2) * 100 + 8 - x3 < (N : Int)) → XW kX9_firstFault (d + 1) (some .int) (wQi Q) 22 [some (.inr (.inr 1)), some (.inl x1), some (.inl x2), some (.inl x3), wx4, wx5] [] M) := by
    intro N
    induction N with
    | zero => refine ⟨?_, ?_, ?_⟩ <;> (intros; exfalso; omega)
    | succ N ih =>
      obtain ⟨ih0, ih1, ih2⟩ := ih
      refine ⟨?_, ?_, ?_⟩
      · skip
        skip
        intro x1 wx2 wx3 wx4 wx5 i0 i1 hm
        refine uX9_firstFault_2 (by first | omega | assumption | with_reducible exact rng_ld _ _ _ | with_reducible exact rng_yand _ _ | with_reducible exact rng_yor _ _ | with_reducible exact rng_zcmp _ _ | with_reducible exact yand7 _ | with_reducible exact rng_toInt _ | with_reducible exact yarr23 (by omega) | with_reducible exact yarr57 (by omega) | with_reducible exact Or.inl rfl | with_reducible exact Or.inr rfl) (fun hc => ?_) (fun hc => ?_)
        · skip
          refine uX9_firstFault_107 ?_
          exact k _ (i1.end (by omega) (by omega))
        · skip
          refine uX9_firstFault_10 ?_
          exact ih1 _ _ _ _ _  (by first | omega | assumption | with_reducible exact rng_ld _ _ _ | with_reducible exact rng_yand _ _ | with_reducible exact rng_yor _ _ | with_reducible exact rng_zcmp _ _ | with_reducible exact yand7 _ | with_reducible exact rng_toInt _ | with_reducible exact yarr23 (by omega) | with_reducible exact yarr57 (by omega) | with_reducible exact Or.inl rfl | with_reducible exact Or.inr rfl) (by first | omega | assumption | with_reducible exact rng_ld _ _ _ | with_reducible exact rng_yand _ _ | with_reducible exact rng_yor _ _ | with_reducible exact rng_zcmp _ _ | with_reducible exact yand7 _ | with_reducible exact rng_toInt _ | with_reducible exact yarr23 (by omega) | with_reducible exact yarr57 (by omega) | with_reducible exact Or.inl rfl | with_reducible exact Or.inr rfl) (by first | exact i3.up (fun a b c a1 a2 b1 b2 c1 c2 q => by omega) | exact i1.up (fun a b c a1 a2 b1 b2 c1 c2 q => by omega)) (by first | omega | assumption | with_reducible exact rng_ld _ _ _ | with_reducible exact rng_yand _ _ | with_reducible exact rng_yor _ _ | with_reducible exact rng_zcmp _ _ | with_reducible exact yand7 _ | with_reducible exact rng_toInt _ | with_reducible exact yarr23 (by omega) | with_reducible exact yarr57 (by omega) | with_reducible exact Or.inl rfl | with_reducible exact Or.inr rfl) (by omega)
      · skip
        skip
        intro x1 x2 wx3 wx4 wx5 i0 i1 i2 i3 hm
        refine uX9_firstFault_12 (by first | omega | assumption | with_reducible exact rng_ld _ _ _ | with_reducible exact rng_yand _ _ | with_reducible exact rng_yor _ _ | with_reducible exact rng_zcmp _ _ | with_reducible exact yand7 _ | with_reducible exact rng_toInt _ | with_reducible exact yarr23 (by omega) | with_reducible exact yarr57 (by omega) | with_reducible exact Or.inl rfl | with_reducible exact Or.inr rfl) (fun hc => ?_) (fun hc => ?_)
        · skip
          refine uX9_firstFault_101 ?_
          exact ih0 _ _ _ _ _  (by first | omega | assumption | with_reducible exact rng_ld _ _ _ | with_reducible exact rng_yand _ _ | with_reducible exact rng_yor _ _ | with_reducible exact rng_zcmp _ _ | with_reducible exact yand7 _ | with_reducible exact rng_toInt _ | with_reducible exact yarr23 (by omega) | with_reducible exact yarr57 (by omega) | with_reducible exact Or.inl rfl | with_reducible exact Or.inr rfl) (by first | exact i2.up (fun a b c a1 a2 b1 b2 c1 c2 q => by omega) | exact NF3.z) (by omega)
        · skip
          refine uX9_firstFault_20 ?_
          exact ih2 _ _ _ _ _  (by first | omega | assumption | with_reducible exact rng_ld _ _ _ | with_reducible exact rng_yand _ _ | with_reducible exact rng_yor _ _ | with_reducible exact rng_zcmp _ _ | with_reducible exact yand7 _ | with_reducible exact rng_toInt _ | with_reducible exact yarr23 (by omega) | with_reducible exact yarr57 (by omega) | with_reducible exact Or.inl rfl | with_reducible exact Or.inr rfl) (by first | omega | assumption | with_reducible exact rng_ld _ _ _ | with_reducible exact rng_yand _ _ | with_reducible exact rng_yor _ _ | with_reducible exact rng_zcmp _ _ | with_reducible exact yand7 _ | with_reducible exact rng_toInt _ | with_reducible exact yarr23 (by omega) | with_reducible exact yarr57 (by omega) | with_reducible exact Or.inl rfl | with_reducible exact Or.inr rfl) (by first | omega | assumption | with_reducible exact rng_ld _ _ _ | with_reducible exact rng_yand _ _ | with_reducible exact rng_yor _ _ | with_reducible exact rng_zcmp _ _ | with_reducible exact yand7 _ | with_reducible exact rng_toInt _ | with_reducible exact yarr23 (by omega) | with_reducible exact yarr57 (by omega) | with_reducible exact Or.inl rfl | with_reducible exact Or.inr rfl) (by first | exact i3.s (by omega) (by omega) (by omega) (by omega) (fun q => q (by assumption)) | exact i2.up (fun a b c a1 a2 b1 b2 c1 c2 q => by omega)) (by first | omega | assumption | with_reducible exact rng_ld _ _ _ | with_reducible exact rng_yand _ _ | with_reducible exact rng_yor _ _ | with_reducible exact rng_zcmp _ _ | with_reducible exact yand7 _ | with_reducible exact rng_toInt _ | with_reducible exact yarr23 (by omega) | with_reducible exact yarr57 (by omega) | with_reducible exact Or.inl rfl | with_reducible exact Or.inr rfl) (by first | omega | assumption | with_reducible exact rng_ld _ _ _ | with_reducible exact rng_yand _ _ | with_reducible exact rng_yor _ _ | with_reducible exact rng_zcmp _ _ | with_reducible exact yand7 _ | with_reducible exact rng_toInt _ | with_reducible exact yarr23 (by omega) | with_reducible exact yarr57 (by omega) | with_reducible exact Or.inl rfl | with_reducible exact Or.inr rfl) (by omega)
      · skip
        skip
        intro x1 x2 x3 wx4 wx5 i0 i1 i2 i3 i4 i5 hm
        refine uX9_firstFault_22 (by first | omega | assumption | with_reducible exact rng_ld _ _ _ | with_reducible exact rng_yand _ _ | with_reducible exact rng_yor _ _ | with_reducible exact rng_zcmp _ _ | with_reducible exact yand7 _ | with_reducible exact rng_toInt _ | with_reducible exact yarr23 (by omega) | with_reducible exact yarr57 (by omega) | with_reducible exact Or.inl rfl | with_reducible exact Or.inr rfl) (fun hc => ?_) (fun hc => ?_)
        · skip
          refine uX9_firstFault_95 ?_
          exact ih1 _ _ _ _ _  (by first | omega | assumption | with_reducible exact rng_ld _ _ _ | with_reducible exact rng_yand _ _ | with_reducible exact rng_yor _ _ | with_reducible exact rng_zcmp _ _ | with_reducible exact yand7 _ | with_reducible exact rng_toInt _ | with_reducible exact yarr23 (by omega) | with_reducible exact yarr57 (by omega) | with_reducible exact Or.inl rfl | with_reducible exact Or.inr rfl) (by first | omega | assumption | with_reducible exact rng_ld _ _ _ | with_reducible exact rng_yand _ _ | with_reducible exact rng_yor _ _ | with_reducible exact rng_zcmp _ _ | with_reducible exact yand7 _ | with_reducible exact rng_toInt _ | with_reducible exact yarr23 (by omega) | with_reducible exact yarr57 (by omega) | with_reducible exact Or.inl rfl | with_reducible exact Or.inr rfl) (by first | exact i3.up (fun a b c a1 a2 b1 b2 c1 c2 q => by omega) | exact i1.up (fun a b c a1 a2 b1 b2 c1 c2 q => by omega)) (by first | omega | assumption | with_reducible exact rng_ld _ _ _ | with_reducible exact rng_yand _ _ | with_reducible exact rng_yor _ _ | with_reducible exact rng_zcmp _ _ | with_reducible exact yand7 _ | with_reducible exact rng_toInt _ | with_reducible exact yarr23 (by omega) | with_reducible exact yarr57 (by omega) | with_reducible exact Or.inl rfl | with_reducible exact Or.inr rfl) (by omega)
        · skip
          refine uX9_firstFault_30 (by first | omega | assumption | with_reducible exact rng_ld _ _ _ | with_reducible exact rng_yand _ _ | with_reducible exact rng_yor _ _ | with_reducible exact rng_zcmp _ _ | with_reducible exact yand7 _ | with_reducible exact rng_toInt _ | with_reducible exact yarr23 (by omega) | with_reducible exact yarr57 (by omega) | with_reducible exact Or.inl rfl | with_reducible exact Or.inr rfl) ?_
          refine c9_joinSets   ?_
          refine uX9_firstFault_48 (by first | omega | assumption | with_reducible exact rng_ld _ _ _ | with_reducible exact rng_yand _ _ | with_reducible exact rng_yor _ _ | with_reducible exact rng_zcmp _ _ | with_reducible exact yand7 _ | with_reducible exact rng_toInt _ | with_reducible exact yarr23 (by omega) | with_reducible exact yarr57 (by omega) | with_reducible exact Or.inl rfl | with_reducible exact Or.inr rfl) ?_
          refine c9_joinSets   ?_
          have r1 := jn_rng M (ld M 3 (8 * x1 + x2)) (yshl 1 x3)
          have r2 := jn_rng M (yshl 1 x1) (ld M 3 (8 * x2 + x3))
          refine uX9_firstFault_68 (by first | omega | assumption | with_reducible exact rng_ld _ _ _ | with_reducible exact rng_yand _ _ | with_reducible exact rng_yor _ _ | with_reducible exact rng_zcmp _ _ | with_reducible exact yand7 _ | with_reducible exact rng_toInt _ | with_reducible exact yarr23 (by omega) | with_reducible exact yarr57 (by omega) | with_reducible exact Or.inl rfl | with_reducible exact Or.inr rfl) (by first | omega | assumption | with_reducible exact rng_ld _ _ _ | with_reducible exact rng_yand _ _ | with_reducible exact rng_yor _ _ | with_reducible exact rng_zcmp _ _ | with_reducible exact yand7 _ | with_reducible exact rng_toInt _ | with_reducible exact yarr23 (by omega) | with_reducible exact yarr57 (by omega) | with_reducible exact Or.inl rfl | with_reducible exact Or.inr rfl) (fun hc => ?_) (fun hc => ?_)
          · skip
            refine uX9_firstFault_89 ?_
            exact ih2 _ _ _ _ _  (by first | omega | assumption | with_reducible exact rng_ld _ _ _ | with_reducible exact rng_yand _ _ | with_reducible exact rng_yor _ _ | with_reducible exact rng_zcmp _ _ | with_reducible exact yand7 _ | with_reducible exact rng_toInt _ | with_reducible exact yarr23 (by omega) | with_reducible exact yarr57 (by omega) | with_reducible exact Or.inl rfl | with_reducible exact Or.inr rfl) (by first | omega | assumption | with_reducible exact rng_ld _ _ _ | with_reducible exact rng_yand _ _ | with_reducible exact rng_yor _ _ | with_reducible exact rng_zcmp _ _ | with_reducible exact yand7 _ | with_reducible exact rng_toInt _ | with_reducible exact yarr23 (by omega) | with_reducible exact yarr57 (by omega) | with_reducible exact Or.inl rfl | with_reducible exact Or.inr rfl) (by first | omega | assumption | with_reducible exact rng_ld _ _ _ | with_reducible exact rng_yand _ _ | with_reducible exact rng_yor _ _ | with_reducible exact rng_zcmp _ _ | with_reducible exact yand7 _ | with_reducible exact rng_toInt _ | with_reducible exact yarr23 (by omega) | with_reducible exact yarr57 (by omega) | with_reducible exact Or.inl rfl | with_reducible exact Or.inr rfl) (by first | exact i3.s (by omega) (by omega) (by omega) (by omega) (fun q => q (by assumption)) | exact i2.up (fun a b c a1 a2 b1 b2 c1 c2 q => by omega)) (by first | omega | assumption | with_reducible exact rng_ld _ _ _ | with_reducible exact rng_yand _ _ | with_reducible exact rng_yor _ _ | with_reducible exact rng_zcmp _ _ | with_reducible exact yand7 _ | with_reducible exact rng_toInt _ | with_reducible exact yarr23 (by omega) | with_reducible exact yarr57 (by omega) | with_reducible exact Or.inl rfl | with_reducible exact Or.inr rfl) (by first | omega | assumption | with_reducible exact rng_ld _ _ _ | with_reducible exact rng_yand _ _ | with_reducible exact rng_yor _ _ | with_reducible exact rng_zcmp _ _ | with_reducible exact yand7 _ | with_reducible exact rng_toInt _ | with_reducible exact yarr23 (by omega) | with_reducible exact yarr57 (by omega) | with_reducible exact Or.inl rfl | with_reducible exact Or.inr rfl) (by omega)
          · skip
            refine uX9_firstFault_77 ?_
            exact k _ (i3.at (by omega) (by omega) (by omega) (by assumption))
  refine uX9_firstFault_0 ?_
  exact (go 1000000).1 _ _ _ _ _  (by first | omega | assumption | with_reducible exact rng_ld _ _ _ | with_reducible exact rng_yand _ _ | with_reducible exact rng_yor _ _ | with_reducible exact rng_zcmp _ _ | with_reducible exact yand7 _ | with_reducible exact rng_toInt _ | with_reducible exact yarr23 (by omega) | with_reducible exact yarr57 (by omega) | with_reducible exact Or.inl rfl | with_reducible exact Or.inr rfl) (by first | exact i2.up (fun a b c a1 a2 b1 b2 c1 c2 q => by omega) | exact NF3.z) (by omega)
theorem c9_howManyTriangles {d : Nat} {Q : Int → yM → Prop} {M : yM}    (k : ∀ (v : Int), Q v M) : XCi (d + 1) 73 [.inr (.inr 1)] M Q := by
  refine eX9_howManyTriangles ?_
  have a1 := tabSh1.2.1
  have a2 := tabSh1.2.2.1
  have a3 := tabSh1.2.2.2.1
  have a4 := tabSh1.2.2.2.2.1
  have a5 := tabSh1.2.2.2.2.2
  have go : ∀ N : Nat, (∀ (x1 : Int) (x2 : Int), (0 ≤ x2 ∧ x2 ≤ 64) → (64 - x2 < (N : Int)) → XW kX9_howManyTriangles (d + 1) (some .int) (wQi Q) 4 [some (.inr (.inr 1)), some (.inl x1), some (.inl x2)] [] M) := by
    intro N
    induction N with
    | zero => intros; exfalso; omega
    | succ N ih =>
      have ih0 := ih
      skip
      intro x1 x2 i0 hm
      refine uX9_howManyTriangles_4 (by first | omega | assumption | with_reducible exact rng_ld _ _ _ | with_reducible exact rng_yand _ _ | with_reducible exact rng_yor _ _ | with_reducible exact rng_zcmp _ _ | with_reducible exact yand7 _ | with_reducible exact rng_toInt _ | with_reducible exact yarr23 (by omega) | with_reducible exact yarr57 (by omega) | with_reducible exact Or.inl rfl | with_reducible exact Or.inr rfl) (fun hc => ?_) (fun hc => ?_)
      · skip
        refine uX9_howManyTriangles_28 ?_
        exact k _ 
      · skip
        refine uX9_howManyTriangles_10 (by first | omega | assumption | with_reducible exact rng_ld _ _ _ | with_reducible exact rng_yand _ _ | with_reducible exact rng_yor _ _ | with_reducible exact rng_zcmp _ _ | with_reducible exact yand7 _ | with_reducible exact rng_toInt _ | with_reducible exact yarr23 (by omega) | with_reducible exact yarr57 (by omega) | with_reducible exact Or.inl rfl | with_reducible exact Or.inr rfl) ?_
        refine c6_bw   (fun v2 p2a => ?_)
        refine uX9_howManyTriangles_20 ?_
        exact ih0 _ _  (by first | omega | assumption | with_reducible exact rng_ld _ _ _ | with_reducible exact rng_yand _ _ | with_reducible exact rng_yor _ _ | with_reducible exact rng_zcmp _ _ | with_reducible exact yand7 _ | with_reducible exact rng_toInt _ | with_reducible exact yarr23 (by omega) | with_reducible exact yarr57 (by omega) | with_reducible exact Or.inl rfl | with_reducible exact Or.inr rfl) (by omega)
  refine uX9_howManyTriangles_0 ?_
  exact (go 1000000) _ _  (by first | omega | assumption | with_reducible exact rng_ld _ _ _ | with_reducible exact rng_yand _ _ | with_reducible exact rng_yor _ _ | with_reducible exact rng_zcmp _ _ | with_reducible exact yand7 _ | with_reducible exact rng_toInt _ | with_reducible exact yarr23 (by omega) | with_reducible exact yarr57 (by omega) | with_reducible exact Or.inl rfl | with_reducible exact Or.inr rfl) (by omega)
theorem c9_copyFrom {d : Nat} {Q : yM → Prop} {M : yM} {x0 : Nat} {x1 : Nat} (hT : tabSh x0)  (hT1 : tabSh x1) (hk : 1 ≤ ld M x1 0 ∧ ld M x1 0 ≤ 8) (hx : x1 + 5 < x0 ∨ x0 + 5 < x1) (h0 : ld M (x0 + 3) 0 = 0) (hT8 : T8 M (x1 + 1)) (k : ∀ (M' : yM), fr (fun o j => o = x0 ∧ j = 0 ∨ x0 + 1 ≤ o ∧ o ≤ x0 + 3 ∨ o = x0 + 4 ∧ 17 ≤ j % 256 ∧ j % 16 ≠ 0) M M' → (ld M' x0 0 = ld M x1 0) → (∀ j, 0 ≤ j → j < 8 → ld M' (x0 + 1) j = ld M (x1 + 1) j) → (ld M' (x0 + 3) 0 = 0) → (TSl M' x0 (al (ld M' x0 0) + 1)) → (HJA M' x0) → (∀ j, 0 ≤ j → j < 64 → ld M' (x0 + 2) j = ld M (x1 + 2) j) → Q M') : XCv (d + 4) 74 [.inr (.inr x0), .inr (.inr x1)] M Q := by
  refine eX9_copyFrom hT ?_
  have fM : fr (fun o j => o = x0 ∧ j = 0 ∨ x0 + 1 ≤ o ∧ o ≤ x0 + 3 ∨ o = x0 + 4 ∧ 17 ≤ j % 256 ∧ j % 16 ≠ 0) M M := fr.rf
  have a1 := hT.2.1
  have a2 := hT.2.2.1
  have a3 := hT.2.2.2.1
  have a4 := hT.2.2.2.2.1
  have a5 := hT.2.2.2.2.2
  have b1 := hT1.2.1
  have b2 := hT1.2.2.1
  refine uX9_copyFrom_0 (by first | omega | assumption | with_reducible exact rng_ld _ _ _ | with_reducible exact rng_yand _ _ | with_reducible exact rng_yor _ _ | with_reducible exact rng_zcmp _ _ | with_reducible exact yand7 _ | with_reducible exact rng_toInt _ | with_reducible exact yarr23 (by omega) | with_reducible exact yarr57 (by omega) | with_reducible exact Or.inl rfl | with_reducible exact Or.inr rfl) (by first | omega | assumption | with_reducible exact rng_ld _ _ _ | with_reducible exact rng_yand _ _ | with_reducible exact rng_yor _ _ | with_reducible exact rng_zcmp _ _ | with_reducible exact yand7 _ | with_reducible exact rng_toInt _ | with_reducible exact yarr23 (by omega) | with_reducible exact yarr57 (by omega) | with_reducible exact Or.inl rfl | with_reducible exact Or.inr rfl) ?_
  intro M1 hM1
  replace fM := fr.put fM hM1 (by first | omega | (dsimp only [wSub, wRun, wNar, wFil, wCan, wLst, wCar, wDr, wFl, wMq, wRd, wRx, wCr, wTab, wTr]; done) | (dsimp only [wSub, wRun, wNar, wFil, wCan, wLst, wCar, wDr, wFl, wMq, wRd, wRx, wCr, wTab, wTr]; omega) | (simp [wSub, wRun, wNar, wFil, wCan, wLst, wCar, wDr, wFl, wMq, wRd, wRx, wCr, wTab, wTr]; done) | (simp [wSub, wRun, wNar, wFil, wCan, wLst, wCar, wDr, wFl, wMq, wRd, wRx, wCr, wTab, wTr]; omega))
  have e0 : ld M1 x0 0 = ld M x1 0 := by rw [hM1, ld_same (rng_ld _ _ _)]
  have e1 : ∀ j, ld M1 (x1 + 1) j = ld M (x1 + 1) j := fun j => fM.ld (by omega)
  have y1 : ld M1 (x0 + 3) 0 = 0 := by rw [hM1, ld_putne (by omega)]; exact h0
  refine uX9_copyFrom_8 (by first | omega | assumption | with_reducible exact rng_ld _ _ _ | with_reducible exact rng_yand _ _ | with_reducible exact rng_yor _ _ | with_reducible exact rng_zcmp _ _ | with_reducible exact yand7 _ | with_reducible exact rng_toInt _ | with_reducible exact yarr23 (by omega) | with_reducible exact yarr57 (by omega) | with_reducible exact Or.inl rfl | with_reducible exact Or.inr rfl) (by first | omega | assumption | with_reducible exact rng_ld _ _ _ | with_reducible exact rng_yand _ _ | with_reducible exact rng_yor _ _ | with_reducible exact rng_zcmp _ _ | with_reducible exact yand7 _ | with_reducible exact rng_toInt _ | with_reducible exact yarr23 (by omega) | with_reducible exact yarr57 (by omega) | with_reducible exact Or.inl rfl | with_reducible exact Or.inr rfl) ?_
  intro M2 hM2
  replace fM := fr.cpy fM hM2 (by intro j hj1 hj2; exact (by first | omega | (dsimp only [wSub, wRun, wNar, wFil, wCan, wLst, wCar, wDr, wFl, wMq, wRd, wRx, wCr, wTab, wTr]; done) | (dsimp only [wSub, wRun, wNar, wFil, wCan, wLst, wCar, wDr, wFl, wMq, wRd, wRx, wCr, wTab, wTr]; omega) | (simp [wSub, wRun, wNar, wFil, wCan, wLst, wCar, wDr, wFl, wMq, wRd, wRx, wCr, wTab, wTr]; done) | (simp [wSub, wRun, wNar, wFil, wCan, wLst, wCar, wDr, wFl, wMq, wRd, wRx, wCr, wTab, wTr]; omega)))
  have e2 : ld M2 x0 0 = ld M x1 0 := by rw [hM2, ld_cpyne (by omega)]; exact e0
  have e3 : ∀ j, 0 ≤ j → j < 8 → ld M2 (x0 + 1) j = ld M (x1 + 1) j := fun j h1 h2 => by
    rw [hM2, ld_cpy, if_pos ⟨rfl, h1, h2⟩, ← e1 j]
    congr 1
    omega
  have y2 : ld M2 (x0 + 3) 0 = 0 := by rw [hM2, ld_cpyne (by omega)]; exact y1
  have e9 : ∀ j, ld M2 (x1 + 2) j = ld M (x1 + 2) j := fun j => fM.ld (by omega)
  refine uX9_copyFrom_23 (by first | omega | assumption | with_reducible exact rng_ld _ _ _ | with_reducible exact rng_yand _ _ | with_reducible exact rng_yor _ _ | with_reducible exact rng_zcmp _ _ | with_reducible exact yand7 _ | with_reducible exact rng_toInt _ | with_reducible exact yarr23 (by omega) | with_reducible exact yarr57 (by omega) | with_reducible exact Or.inl rfl | with_reducible exact Or.inr rfl) (by first | omega | assumption | with_reducible exact rng_ld _ _ _ | with_reducible exact rng_yand _ _ | with_reducible exact rng_yor _ _ | with_reducible exact rng_zcmp _ _ | with_reducible exact yand7 _ | with_reducible exact rng_toInt _ | with_reducible exact yarr23 (by omega) | with_reducible exact yarr57 (by omega) | with_reducible exact Or.inl rfl | with_reducible exact Or.inr rfl) ?_
  intro M3 hM3
  replace fM := fr.cpy fM hM3 (by intro j hj1 hj2; exact (by first | omega | (dsimp only [wSub, wRun, wNar, wFil, wCan, wLst, wCar, wDr, wFl, wMq, wRd, wRx, wCr, wTab, wTr]; done) | (dsimp only [wSub, wRun, wNar, wFil, wCan, wLst, wCar, wDr, wFl, wMq, wRd, wRx, wCr, wTab, wTr]; omega) | (simp [wSub, wRun, wNar, wFil, wCan, wLst, wCar, wDr, wFl, wMq, wRd, wRx, wCr, wTab, wTr]; done) | (simp [wSub, wRun, wNar, wFil, wCan, wLst, wCar, wDr, wFl, wMq, wRd, wRx, wCr, wTab, wTr]; omega)))
  have y3 : ld M3 (x0 + 3) 0 = 0 := by rw [hM3, ld_cpyne (by omega)]; exact y2
  have e4 : ld M3 x0 0 = ld M x1 0 := by rw [hM3, ld_cpyne (by omega)]; exact e2
  have e5 : ∀ j, 0 ≤ j → j < 8 → ld M3 (x0 + 1) j = ld M (x1 + 1) j := fun j h1 h2 => by rw [hM3, ld_cpyne (by omega)]; exact e3 j h1 h2
  have r5 : ∀ j, 0 ≤ j → j < 64 → ld M3 (x0 + 2) j = ld M (x1 + 2) j := fun j h1 h2 => by
    rw [hM3, ld_cpy, if_pos ⟨rfl, h1, h2⟩, ← e9 j]
    congr 1
    omega
  refine uX9_copyFrom_38 ?_
  refine XC.deep (c9_prepare  (d := 0) (by first | assumption | exact tabSh1 | exact tabSh7 | exact tabSh13 | with_reducible exact yterm83 (by omega)) (by first | omega | assumption | with_reducible exact rng_ld _ _ _ | with_reducible exact rng_yand _ _ | with_reducible exact rng_yor _ _ | with_reducible exact rng_zcmp _ _ | with_reducible exact yand7 _ | with_reducible exact rng_toInt _ | with_reducible exact yarr23 (by omega) | with_reducible exact yarr57 (by omega) | with_reducible exact Or.inl rfl | with_reducible exact Or.inr rfl) y3 (fun j q1 q2 => by rw [e5 j q1 q2]; exact hT8 j q1 q2) (fun M4 fM4 p4a p4b p4c => ?_)) (by omega)
  replace fM := fM.tr fM4 (by intro o j hw; first | omega | exact hw | (dsimp only [wSub, wRun, wNar, wFil, wCan, wLst, wCar, wDr, wFl, wMq, wRd, wRx, wCr, wTab, wTr] at hw; dsimp only [wSub, wRun, wNar, wFil, wCan, wLst, wCar, wDr, wFl, wMq, wRd, wRx, wCr, wTab, wTr]; omega) | (dsimp only [wSub, wRun, wNar, wFil, wCan, wLst, wCar, wDr, wFl, wMq, wRd, wRx, wCr, wTab, wTr]; omega) | (dsimp only [wSub, wRun, wNar, wFil, wCan, wLst, wCar, wDr, wFl, wMq, wRd, wRx, wCr, wTab, wTr] at hw; omega) | (simp [wSub, wRun, wNar, wFil, wCan, wLst, wCar, wDr, wFl, wMq, wRd, wRx, wCr, wTab, wTr] at hw; simp [wSub, wRun, wNar, wFil, wCan, wLst, wCar, wDr, wFl, wMq, wRd, wRx, wCr, wTab, wTr]; omega))
  have e6 : ld M4 x0 0 = ld M x1 0 := by rw [fM4.ld (by omega)]; exact e4
  have e7 : ∀ j, 0 ≤ j → j < 8 → ld M4 (x0 + 1) j = ld M (x1 + 1) j := fun j h1 h2 => by rw [fM4.ld (by omega)]; exact e5 j h1 h2
  have z0 := p4a
  have z1 := p4b
  have z2 := p4c
  have r6 : ∀ j, 0 ≤ j → j < 64 → ld M4 (x0 + 2) j = ld M (x1 + 2) j := fun j h1 h2 => by rw [fM4.ld (by omega)]; exact r5 j h1 h2
  refine uX9_copyFrom_42 ?_
  exact k _ fM e6 e7 z0 z1 z2 r6
