/-! CLASS: THE SEARCH EXACTLY -/
/-- more than one kind, as the class asks it -/
def Om (x : Int) : Prop := yand x (x - 1) ≠ 0
theorem bc_pcb : ∀ n : Nat, n < 256 → bc (n : Int) = pcb (n : Int) 8 := by decide +kernel
theorem om_k : ∀ n : Nat, n < 256 → (2 ≤ pcb (n : Int) 8 ↔ yand (n : Int) ((n : Int) - 1) ≠ 0) := by decide +kernel
theorem om_1 : ∀ n : Nat, n < 256 → n ≠ 0 → yand (n : Int) ((n : Int) - 1) = 0 → ((List.range 8).any fun a => decide ((n : Int) = yshl 1 (a : Int))) = true := by decide +kernel
theorem om_bc {x : Int} (h : 0 ≤ x ∧ x < 256) : (Om x ↔ 2 ≤ bc x) ∧ 0 ≤ bc x ∧ bc x ≤ 8 ∧ bc x = pcb x 8 := by
  obtain ⟨n, rfl⟩ := Int.eq_ofNat_of_zero_le h.1
  have e := bc_pcb n (by omega)
  have b := pcb_b (n : Int) 8
  unfold Om
  rw [e]
  exact ⟨(om_k n (by omega)).symm, b.1, b.2, rfl⟩
theorem om_op {x : Int} (h : 0 ≤ x ∧ x < 256) (h0 : x ≠ 0) (hn : ¬ Om x) : ¬ Op x := by
  obtain ⟨n, rfl⟩ := Int.eq_ofNat_of_zero_le h.1
  have w := om_1 n (by omega) (by omega) (Classical.byContradiction (fun q => hn q))
  rw [List.any_eq_true] at w
  obtain ⟨a, h1, h2⟩ := w
  rw [decide_eq_true_eq] at h2
  have := List.mem_range.mp h1
  exact fun o => o (a : Int) (by omega) (by omega) h2
/-- a pair of more kinds with p, among those looked at -/
def Eo (X : Int → Int) (n x y p q : Int) : Prop := (0 ≤ p ∧ p < q ∧ q < n ∧ (p < x ∨ p = x ∧ q < y) ∧ Om (X (8 * p + q))) ∨ (0 ≤ q ∧ q < p ∧ p < n ∧ (q < x ∨ q = x ∧ p < y) ∧ Om (X (8 * q + p)))
def PTn (X : Int → Int) (n x y o t : Int) : Prop := (∀ p : Nat, bt o p = true ↔ ∃ q : Int, Eo X n x y p q) ∧ (∀ p : Nat, bt t p = true ↔ ∃ q q' : Int, q ≠ q' ∧ Eo X n x y p q ∧ Eo X n x y p q')
section
variable {X : Int → Int} {n x y o t : Int}
theorem PTn.cg {x' y' : Int} (h : PTn X n x y o t) (e : ∀ p q : Int, Eo X n x' y' p q ↔ Eo X n x y p q) : PTn X n x' y' o t := by
  refine ⟨fun p => ?_, fun p => ?_⟩
  · rw [h.1 p]
    exact ⟨fun ⟨q, w⟩ => ⟨q, (e _ _).mpr w⟩, fun ⟨q, w⟩ => ⟨q, (e _ _).mp w⟩⟩
  · rw [h.2 p]
    exact ⟨fun ⟨q, q', a, b, c⟩ => ⟨q, q', a, (e _ _).mpr b, (e _ _).mpr c⟩, fun ⟨q, q', a, b, c⟩ => ⟨q, q', a, (e _ _).mp b, (e _ _).mp c⟩⟩
theorem PTn.z : PTn X n 0 0 0 0 := by
  have no : ∀ p q : Int, ¬ Eo X n 0 0 p q := fun p q h => by
    rcases h with ⟨a, b, c, d, _⟩ | ⟨a, b, c, d, _⟩ <;> omega
  refine ⟨fun p => ?_, fun p => ?_⟩
  · rw [bt_0]
    exact ⟨fun w => (by cases w), fun ⟨q, w⟩ => absurd w (no _ _)⟩
  · rw [bt_0]
    exact ⟨fun w => (by cases w), fun ⟨q, q', _, w, _⟩ => absurd w (no _ _)⟩
theorem Eo.cg {x' y' : Int} (e : ∀ p q : Int, 0 ≤ p → p < q → q < n → Om (X (8 * p + q)) → ((p < x ∨ p = x ∧ q < y) ↔ (p < x' ∨ p = x' ∧ q < y'))) (p q : Int) : Eo X n x y p q ↔ Eo X n x' y' p q := by
  unfold Eo
  constructor
  · rintro (⟨a, b, c, d, m⟩ | ⟨a, b, c, d, m⟩)
    · exact Or.inl ⟨a, b, c, (e p q a b c m).mp d, m⟩
    · exact Or.inr ⟨a, b, c, (e q p a b c m).mp d, m⟩
  · rintro (⟨a, b, c, d, m⟩ | ⟨a, b, c, d, m⟩)
    · exact Or.inl ⟨a, b, c, (e p q a b c m).mpr d, m⟩
    · exact Or.inr ⟨a, b, c, (e q p a b c m).mpr d, m⟩
theorem PTn.row (h : PTn X n x y o t) (hy : n ≤ y) : PTn X n (x + 1) 0 o t := h.cg (Eo.cg (fun p q a b c _ => by omega))
theorem PTn.inn (h : PTn X n x 0 o t) : PTn X n x (x + 1) o t := h.cg (Eo.cg (fun p q a b c _ => by omega))
theorem PTn.end (h : PTn X n x 0 o t) (hx : n ≤ x) : PTn X n n 0 o t := h.cg (Eo.cg (fun p q a b c _ => by omega))
theorem PTn.no (h : PTn X n x y o t) (hm : ¬ Om (X (8 * x + y))) : PTn X n x (y + 1) o t := h.cg (Eo.cg (fun p q a b c m => by
  have ne : ¬ (p = x ∧ q = y) := fun e => by rw [e.1, e.2] at m; exact hm m
  omega))
theorem PTn.s (h : PTn X n x y o t) (hx : 0 ≤ x ∧ x < y ∧ y < n ∧ n ≤ 8) (hm : Om (X (8 * x + y))) : PTn X n x (y + 1) (yor o (yor (yshl 1 x) (yshl 1 y))) (yor t (yand o (yor (yshl 1 x) (yshl 1 y)))) := by
  have st : ∀ p q : Int, Eo X n x (y + 1) p q ↔ Eo X n x y p q ∨ (p = x ∧ q = y) ∨ (p = y ∧ q = x) := fun p q => by
    unfold Eo
    constructor
    · rintro (⟨a, b, c, d, m⟩ | ⟨a, b, c, d, m⟩)
      · by_cases e : p = x ∧ q = y
        · exact Or.inr (Or.inl e)
        · exact Or.inl (Or.inl ⟨a, b, c, by omega, m⟩)
      · by_cases e : p = y ∧ q = x
        · exact Or.inr (Or.inr e)
        · exact Or.inl (Or.inr ⟨a, b, c, by omega, m⟩)
    · rintro ((⟨a, b, c, d, m⟩ | ⟨a, b, c, d, m⟩) | ⟨rfl, rfl⟩ | ⟨rfl, rfl⟩)
      · exact Or.inl ⟨a, b, c, by omega, m⟩
      · exact Or.inr ⟨a, b, c, by omega, m⟩
      · exact Or.inl ⟨by omega, by omega, by omega, by omega, hm⟩
      · exact Or.inr ⟨by omega, by omega, by omega, by omega, hm⟩
  have n1 : ¬ Eo X n x y x y := fun w => by rcases w with ⟨a, b, c, d, _⟩ | ⟨a, b, c, d, _⟩ <;> omega
  have n2 : ¬ Eo X n x y y x := fun w => by rcases w with ⟨a, b, c, d, _⟩ | ⟨a, b, c, d, _⟩ <;> omega
  have bx : ∀ p : Nat, bt (yshl 1 x) p = true ↔ (p : Int) = x := fun p => by rw [bt_bit (by omega), decide_eq_true_eq]; omega
  have bY : ∀ p : Nat, bt (yshl 1 y) p = true ↔ (p : Int) = y := fun p => by rw [bt_bit (by omega), decide_eq_true_eq]; omega
  refine ⟨fun p => ?_, fun p => ?_⟩
  · rw [bt_yor, bt_yor, Bool.or_eq_true, Bool.or_eq_true, h.1 p, bx p, bY p]
    constructor
    · rintro (⟨q, w⟩ | e | e)
      · exact ⟨q, (st _ _).mpr (Or.inl w)⟩
      · exact ⟨y, (st _ _).mpr (Or.inr (Or.inl ⟨e, rfl⟩))⟩
      · exact ⟨x, (st _ _).mpr (Or.inr (Or.inr ⟨e, rfl⟩))⟩
    · rintro ⟨q, w⟩
      rcases (st _ _).mp w with w | w | w
      · exact Or.inl ⟨q, w⟩
      · exact Or.inr (Or.inl w.1)
      · exact Or.inr (Or.inr w.1)
  · rw [bt_yor, bt_yand, bt_yor, Bool.or_eq_true, Bool.and_eq_true, Bool.or_eq_true, h.1 p, h.2 p, bx p, bY p]
    constructor
    · rintro (⟨q, q', ne, w, w'⟩ | ⟨⟨q, w⟩, e | e⟩)
      · exact ⟨q, q', ne, (st _ _).mpr (Or.inl w), (st _ _).mpr (Or.inl w')⟩
      · exact ⟨q, y, fun z => n1 (by rw [e, z] at w; exact w), (st _ _).mpr (Or.inl w), (st _ _).mpr (Or.inr (Or.inl ⟨e, rfl⟩))⟩
      · exact ⟨q, x, fun z => n2 (by rw [e, z] at w; exact w), (st _ _).mpr (Or.inl w), (st _ _).mpr (Or.inr (Or.inr ⟨e, rfl⟩))⟩
    · rintro ⟨q, q', ne, w, w'⟩
      rcases (st _ _).mp w with v | v | v <;> rcases (st _ _).mp w' with v' | v' | v'
      · exact Or.inl ⟨q, q', ne, v, v'⟩
      · exact Or.inr ⟨⟨q, v⟩, Or.inl v'.1⟩
      · exact Or.inr ⟨⟨q, v⟩, Or.inr v'.1⟩
      · exact Or.inr ⟨⟨q', v'⟩, Or.inl v.1⟩
      · exact absurd (v.2.trans v'.2.symm) ne
      · exfalso; omega
      · exact Or.inr ⟨⟨q', v'⟩, Or.inr v.1⟩
      · exfalso; omega
      · exact absurd (v.2.trans v'.2.symm) ne
end
/-- no triangle has two, as the class finds it -/
theorem one_op {X f : Int → Int} {k n : Int} (hk : 1 ≤ k ∧ k ≤ 8) (hn : n ≤ 8) (hX : SN f k n X) (hT : IV f k) (hNe : Ne n X) (h : ∀ p q q' : Int, q ≠ q' → Eo X n n 0 p q → ¬ Eo X n n 0 p q') : OneOp n X := by
  have h8 := al_le hk
  have key : ∀ p q : Int, 0 ≤ p → p < n → 0 ≤ q → q < n → p ≠ q → ¬ ¬ Op (X (8 * p + q)) → Eo X n n 0 p q := fun p q p1 p2 q1 q2 pq ho => by
    have s := hX p q p1 p2 q1 q2 pq
    rcases Int.lt_or_gt_of_ne pq with w | w
    · refine Or.inl ⟨p1, w, q2, by omega, Classical.byContradiction (fun z => ho (om_op (by omega) (hNe p q p1 p2 q1 q2 pq) z))⟩
    · have s' := hX q p q1 q2 p1 p2 (fun e => pq e.symm)
      refine Or.inr ⟨q1, w, p2, by omega, Classical.byContradiction (fun z => ?_)⟩
      have no := om_op (by omega) (hNe q p q1 q2 p1 p2 (fun e => pq e.symm)) z
      refine ho (fun o => no (fun a a1 a2 e => ?_))
      -- told from the other side it is one kind too
      have ak := bt_al (by omega) s'.1 (i := a.toNat) (by rw [e, bt_bit (by omega), decide_eq_true_eq])
      have fa := (hT a a1 (by omega)).1
      rw [e, tP_bit hk hT ⟨a1, by omega⟩] at s'
      exact o (f a) fa.1 (by omega) s'.2
  intro i j c i1 i2 j1 j2 c1 c2 ij jc ic
  apply Classical.byContradiction
  intro q
  have q1 : ¬ ¬ Op (X (8 * i + j)) := fun z => q (Or.inl z)
  have q2 : ¬ ¬ Op (X (8 * j + c)) := fun z => q (Or.inr z)
  have e1 := key i j i1 i2 j1 j2 ij q1
  have e2 := key j c j1 j2 c1 c2 jc q2
  have e1' : Eo X n n 0 j i := e1.elim (fun w => Or.inr w) (fun w => Or.inl w)
  exact h j i c ic e1' e2
theorem n7_pointsToTry {d : Nat} {Q : Int → yM → Prop} {M : yM} {x1 : Nat}  (hs : 1 ≤ ld M 22 6 ∧ ld M 22 6 ≤ 8) (hA : arrSh x1 64) (kont : ∀ (v : Int), (ld M 22 10 = 0 ∧ (∃ o : Int, PTn (ld M x1) (ld M 22 6) (ld M 22 6) 0 o v) ∨ ld M 22 10 ≠ 0 ∧ ∃ t : Int, PTn (ld M x1) (ld M 22 6) (ld M 22 6) 0 v t) → (-2147483648 ≤ v ∧ v < 2147483648) → Q v M) : XCi d 51 [.inr (.inr 22), .inr (.inr x1)] M Q := by
  refine eX7_pointsToTry ?_
  have go : ∀ N : Nat, (∀ (x2 : Int) (x3 : Int) (x4 : Int) (wx5 : Option yV) (wx6 : Option yV) (wx7 : Option yV), (0 ≤ x4 ∧ x4 ≤ 8) → (-2147483648 ≤ x2 ∧ x2 < 2147483648) → (-2147483648 ≤ x3 ∧ x3 < 2147483648) → (PTn (ld M x1) (ld M 22 6) x4 0 x2 x3) → ((8 - x4) * 40 + 20 < (N : Int)) → XW kX7_pointsToTry d (some .int) (wQi Q) 7 [some (.inr (.inr 22)), some (.inr (.inr x1)), some (.inl x2), some (.inl x3), some (.inl x4), wx5, wx6, wx7] [] M) ∧ (∀ (x2 : Int) (x3 : Int) (x4 : Int) (x5 : Int) (wx6 : Option yV) (wx7 : Option yV), (0 ≤ x4 ∧ x4 < ld M 22 6) → (x4 < x5 ∧ x5 ≤ 8) → (-2147483648 ≤ x2 ∧ x2 < 2147483648) → (-2147483648 ≤ x3 ∧ x3 < 2147483648) → (PTn (ld M x1) (ld M 22 6) x4 x5 x2 x3) → ((8 - x4) * 40 + 8 - x5 < (N : Int)) → XW kX7_pointsToTry d (some .int) (wQi Q) 22 [some (.inr (.inr 22)), some (.inr (.inr x1)), some (.inl x2), some (.inl x3), some (.inl x4), some (.inl x5), wx6, wx7] [] M) := by
    intro N
    induction N with
    | zero => refine ⟨?_, ?_⟩ <;> (intros; exfalso; omega)
    | succ N ih =>
      obtain ⟨ih0, ih1⟩ := ih
      refine ⟨?_, ?_⟩
      · skip
        skip
        intro x2 x3 x4 wx5 wx6 wx7 i0 i1 i2 i3 hm
        refine uX7_pointsToTry_7 (by first | omega | assumption | with_reducible exact rng_ld _ _ _ | with_reducible exact rng_yand _ _ | with_reducible exact rng_yor _ _ | with_reducible exact rng_zcmp _ _ | with_reducible exact yand7 _ | with_reducible exact rng_toInt _ | with_reducible exact yarr23 (by omega) | with_reducible exact yarr57 (by omega) | with_reducible exact Or.inl rfl | with_reducible exact Or.inr rfl) (fun hc => ?_) (fun hc => ?_)
        · skip
          refine uX7_pointsToTry_88 (fun hc => ?_) (fun hc => ?_)
          · skip
            have pe := i3.end (by omega)
            refine uX7_pointsToTry_99 ?_
            refine uX7_pointsToTry_100 ?_
            exact kont _ (by first | exact Or.inl ⟨by assumption, _, pe⟩ | exact Or.inr ⟨by assumption, _, pe⟩) (by first | omega | assumption | with_reducible exact rng_ld _ _ _ | with_reducible exact rng_yand _ _ | with_reducible exact rng_yor _ _ | with_reducible exact rng_zcmp _ _ | with_reducible exact yand7 _ | with_reducible exact rng_toInt _ | with_reducible exact yarr23 (by omega) | with_reducible exact yarr57 (by omega) | with_reducible exact Or.inl rfl | with_reducible exact Or.inr rfl)
          · skip
            have pe := i3.end (by omega)
            refine uX7_pointsToTry_95 ?_
            refine uX7_pointsToTry_100 ?_
            exact kont _ (by first | exact Or.inl ⟨by assumption, _, pe⟩ | exact Or.inr ⟨by assumption, _, pe⟩) (by first | omega | assumption | with_reducible exact rng_ld _ _ _ | with_reducible exact rng_yand _ _ | with_reducible exact rng_yor _ _ | with_reducible exact rng_zcmp _ _ | with_reducible exact yand7 _ | with_reducible exact rng_toInt _ | with_reducible exact yarr23 (by omega) | with_reducible exact yarr57 (by omega) | with_reducible exact Or.inl rfl | with_reducible exact Or.inr rfl)
        · skip
          refine uX7_pointsToTry_16 ?_
          exact ih1 _ _ _ _ _ _  (by first | omega | assumption | with_reducible exact rng_ld _ _ _ | with_reducible exact rng_yand _ _ | with_reducible exact rng_yor _ _ | with_reducible exact rng_zcmp _ _ | with_reducible exact yand7 _ | with_reducible exact rng_toInt _ | with_reducible exact yarr23 (by omega) | with_reducible exact yarr57 (by omega) | with_reducible exact Or.inl rfl | with_reducible exact Or.inr rfl) (by first | omega | assumption | with_reducible exact rng_ld _ _ _ | with_reducible exact rng_yand _ _ | with_reducible exact rng_yor _ _ | with_reducible exact rng_zcmp _ _ | with_reducible exact yand7 _ | with_reducible exact rng_toInt _ | with_reducible exact yarr23 (by omega) | with_reducible exact yarr57 (by omega) | with_reducible exact Or.inl rfl | with_reducible exact Or.inr rfl) (by first | omega | assumption | with_reducible exact rng_ld _ _ _ | with_reducible exact rng_yand _ _ | with_reducible exact rng_yor _ _ | with_reducible exact rng_zcmp _ _ | with_reducible exact yand7 _ | with_reducible exact rng_toInt _ | with_reducible exact yarr23 (by omega) | with_reducible exact yarr57 (by omega) | with_reducible exact Or.inl rfl | with_reducible exact Or.inr rfl) (by first | omega | assumption | with_reducible exact rng_ld _ _ _ | with_reducible exact rng_yand _ _ | with_reducible exact rng_yor _ _ | with_reducible exact rng_zcmp _ _ | with_reducible exact yand7 _ | with_reducible exact rng_toInt _ | with_reducible exact yarr23 (by omega) | with_reducible exact yarr57 (by omega) | with_reducible exact Or.inl rfl | with_reducible exact Or.inr rfl) (by first | exact i3.inn | exact i4.s (by omega) (by assumption) | exact i4.no (fun q => q (by assumption))) (by omega)
      · skip
        skip
        intro x2 x3 x4 x5 wx6 wx7 i0 i1 i2 i3 i4 hm
        refine uX7_pointsToTry_22 (by first | omega | assumption | with_reducible exact rng_ld _ _ _ | with_reducible exact rng_yand _ _ | with_reducible exact rng_yor _ _ | with_reducible exact rng_zcmp _ _ | with_reducible exact yand7 _ | with_reducible exact rng_toInt _ | with_reducible exact yarr23 (by omega) | with_reducible exact yarr57 (by omega) | with_reducible exact Or.inl rfl | with_reducible exact Or.inr rfl) (fun hc => ?_) (fun hc => ?_)
        · skip
          refine uX7_pointsToTry_82 ?_
          exact ih0 _ _ _ _ _ _  (by first | omega | assumption | with_reducible exact rng_ld _ _ _ | with_reducible exact rng_yand _ _ | with_reducible exact rng_yor _ _ | with_reducible exact rng_zcmp _ _ | with_reducible exact yand7 _ | with_reducible exact rng_toInt _ | with_reducible exact yarr23 (by omega) | with_reducible exact yarr57 (by omega) | with_reducible exact Or.inl rfl | with_reducible exact Or.inr rfl) (by first | omega | assumption | with_reducible exact rng_ld _ _ _ | with_reducible exact rng_yand _ _ | with_reducible exact rng_yor _ _ | with_reducible exact rng_zcmp _ _ | with_reducible exact yand7 _ | with_reducible exact rng_toInt _ | with_reducible exact yarr23 (by omega) | with_reducible exact yarr57 (by omega) | with_reducible exact Or.inl rfl | with_reducible exact Or.inr rfl) (by first | omega | assumption | with_reducible exact rng_ld _ _ _ | with_reducible exact rng_yand _ _ | with_reducible exact rng_yor _ _ | with_reducible exact rng_zcmp _ _ | with_reducible exact yand7 _ | with_reducible exact rng_toInt _ | with_reducible exact yarr23 (by omega) | with_reducible exact yarr57 (by omega) | with_reducible exact Or.inl rfl | with_reducible exact Or.inr rfl) (by first | exact PTn.z | exact i4.row (by omega)) (by omega)
        · skip
          refine uX7_pointsToTry_31 (by first | assumption | exact ⟨rfl, Nat.le_of_ble_eq_true rfl⟩ | with_reducible exact yarr23 (by omega) | with_reducible exact yarr57 (by omega)) (by first | omega | assumption | with_reducible exact rng_ld _ _ _ | with_reducible exact rng_yand _ _ | with_reducible exact rng_yor _ _ | with_reducible exact rng_zcmp _ _ | with_reducible exact yand7 _ | with_reducible exact rng_toInt _ | with_reducible exact yarr23 (by omega) | with_reducible exact yarr57 (by omega) | with_reducible exact Or.inl rfl | with_reducible exact Or.inr rfl) (fun hc => ?_) (fun hc => ?_)
          · skip
            refine uX7_pointsToTry_76 ?_
            exact ih1 _ _ _ _ _ _  (by first | omega | assumption | with_reducible exact rng_ld _ _ _ | with_reducible exact rng_yand _ _ | with_reducible exact rng_yor _ _ | with_reducible exact rng_zcmp _ _ | with_reducible exact yand7 _ | with_reducible exact rng_toInt _ | with_reducible exact yarr23 (by omega) | with_reducible exact yarr57 (by omega) | with_reducible exact Or.inl rfl | with_reducible exact Or.inr rfl) (by first | omega | assumption | with_reducible exact rng_ld _ _ _ | with_reducible exact rng_yand _ _ | with_reducible exact rng_yor _ _ | with_reducible exact rng_zcmp _ _ | with_reducible exact yand7 _ | with_reducible exact rng_toInt _ | with_reducible exact yarr23 (by omega) | with_reducible exact yarr57 (by omega) | with_reducible exact Or.inl rfl | with_reducible exact Or.inr rfl) (by first | omega | assumption | with_reducible exact rng_ld _ _ _ | with_reducible exact rng_yand _ _ | with_reducible exact rng_yor _ _ | with_reducible exact rng_zcmp _ _ | with_reducible exact yand7 _ | with_reducible exact rng_toInt _ | with_reducible exact yarr23 (by omega) | with_reducible exact yarr57 (by omega) | with_reducible exact Or.inl rfl | with_reducible exact Or.inr rfl) (by first | omega | assumption | with_reducible exact rng_ld _ _ _ | with_reducible exact rng_yand _ _ | with_reducible exact rng_yor _ _ | with_reducible exact rng_zcmp _ _ | with_reducible exact yand7 _ | with_reducible exact rng_toInt _ | with_reducible exact yarr23 (by omega) | with_reducible exact yarr57 (by omega) | with_reducible exact Or.inl rfl | with_reducible exact Or.inr rfl) (by first | exact i3.inn | exact i4.s (by omega) (by assumption) | exact i4.no (fun q => q (by assumption))) (by omega)
          · skip
            refine uX7_pointsToTry_53 ?_
            refine uX7_pointsToTry_76 ?_
            exact ih1 _ _ _ _ _ _  (by first | omega | assumption | with_reducible exact rng_ld _ _ _ | with_reducible exact rng_yand _ _ | with_reducible exact rng_yor _ _ | with_reducible exact rng_zcmp _ _ | with_reducible exact yand7 _ | with_reducible exact rng_toInt _ | with_reducible exact yarr23 (by omega) | with_reducible exact yarr57 (by omega) | with_reducible exact Or.inl rfl | with_reducible exact Or.inr rfl) (by first | omega | assumption | with_reducible exact rng_ld _ _ _ | with_reducible exact rng_yand _ _ | with_reducible exact rng_yor _ _ | with_reducible exact rng_zcmp _ _ | with_reducible exact yand7 _ | with_reducible exact rng_toInt _ | with_reducible exact yarr23 (by omega) | with_reducible exact yarr57 (by omega) | with_reducible exact Or.inl rfl | with_reducible exact Or.inr rfl) (by first | omega | assumption | with_reducible exact rng_ld _ _ _ | with_reducible exact rng_yand _ _ | with_reducible exact rng_yor _ _ | with_reducible exact rng_zcmp _ _ | with_reducible exact yand7 _ | with_reducible exact rng_toInt _ | with_reducible exact yarr23 (by omega) | with_reducible exact yarr57 (by omega) | with_reducible exact Or.inl rfl | with_reducible exact Or.inr rfl) (by first | omega | assumption | with_reducible exact rng_ld _ _ _ | with_reducible exact rng_yand _ _ | with_reducible exact rng_yor _ _ | with_reducible exact rng_zcmp _ _ | with_reducible exact yand7 _ | with_reducible exact rng_toInt _ | with_reducible exact yarr23 (by omega) | with_reducible exact yarr57 (by omega) | with_reducible exact Or.inl rfl | with_reducible exact Or.inr rfl) (by first | exact i3.inn | exact i4.s (by omega) (by assumption) | exact i4.no (fun q => q (by assumption))) (by omega)
  refine uX7_pointsToTry_0 ?_
  exact (go 1000000).1 _ _ _ _ _ _  (by first | omega | assumption | with_reducible exact rng_ld _ _ _ | with_reducible exact rng_yand _ _ | with_reducible exact rng_yor _ _ | with_reducible exact rng_zcmp _ _ | with_reducible exact yand7 _ | with_reducible exact rng_toInt _ | with_reducible exact yarr23 (by omega) | with_reducible exact yarr57 (by omega) | with_reducible exact Or.inl rfl | with_reducible exact Or.inr rfl) (by first | omega | assumption | with_reducible exact rng_ld _ _ _ | with_reducible exact rng_yand _ _ | with_reducible exact rng_yor _ _ | with_reducible exact rng_zcmp _ _ | with_reducible exact yand7 _ | with_reducible exact rng_toInt _ | with_reducible exact yarr23 (by omega) | with_reducible exact yarr57 (by omega) | with_reducible exact Or.inl rfl | with_reducible exact Or.inr rfl) (by first | omega | assumption | with_reducible exact rng_ld _ _ _ | with_reducible exact rng_yand _ _ | with_reducible exact rng_yor _ _ | with_reducible exact rng_zcmp _ _ | with_reducible exact yand7 _ | with_reducible exact rng_toInt _ | with_reducible exact yarr23 (by omega) | with_reducible exact yarr57 (by omega) | with_reducible exact Or.inl rfl | with_reducible exact Or.inr rfl) (by first | exact PTn.z | exact i4.row (by omega)) (by omega)
/-- among those looked at none is chosen, or one is -/
def NO (X : Int → Int) (n tr x y b f : Int) : Prop := (b = -1 ∧ f = 9 ∧ ∀ p q : Int, 0 ≤ p → p < q → q < n → (p < x ∨ p = x ∧ q < y) → Om (X (8 * p + q)) → yand (yor (yshl 1 p) (yshl 1 q)) tr = 0) ∨ (0 ≤ f ∧ f ≤ 9 ∧ ∃ i c : Int, 0 ≤ i ∧ i < c ∧ c < n ∧ b = 8 * i + c ∧ Om (X b))
theorem NO.z {X : Int → Int} {n tr : Int} : NO X n tr 0 0 (-1) 9 := Or.inl ⟨rfl, rfl, fun p q p1 p2 q2 h _ => by omega⟩
theorem NO.row {X : Int → Int} {n tr x y b f : Int} (h : NO X n tr x y b f) (hy : n ≤ y) : NO X n tr (x + 1) 0 b f := h.imp (fun ⟨a, b, c⟩ => ⟨a, b, fun p q p1 p2 q2 w m => c p q p1 p2 q2 (by omega) m⟩) (fun w => w)
theorem NO.inn {X : Int → Int} {n tr x b f : Int} (h : NO X n tr x 0 b f) : NO X n tr x (x + 1) b f := h.imp (fun ⟨a, b, c⟩ => ⟨a, b, fun p q p1 p2 q2 w m => c p q p1 p2 q2 (by omega) m⟩) (fun w => w)
theorem NO.sk {X : Int → Int} {n tr x y b f : Int} (h : NO X n tr x y b f) (hm : ¬ Om (X (8 * x + y)) ∨ 9 > f ∧ False ∨ yand (yor (yshl 1 x) (yshl 1 y)) tr = 0 ∨ f ≠ 9) : NO X n tr x (y + 1) b f := by
  rcases h with ⟨a, b, c⟩ | h
  · refine Or.inl ⟨a, b, fun p q p1 p2 q2 w m => ?_⟩
    by_cases e : p = x ∧ q = y
    · rw [e.1, e.2] at m ⊢
      rcases hm with z | z | z | z
      · exact absurd m z
      · exact absurd z.2 (fun f => f)
      · exact z
      · exact absurd b z
    · exact c p q p1 p2 q2 (by omega) m
  · exact Or.inr h
theorem NO.set {X : Int → Int} {n tr x y f : Int} (hx : 0 ≤ x ∧ x < y ∧ y < n) (hm : Om (X (8 * x + y))) (hf : 0 ≤ f ∧ f ≤ 9) : NO X n tr x (y + 1) (8 * x + y) f := Or.inr ⟨hf.1, hf.2, x, y, hx.1, hx.2.1, hx.2.2, rfl, hm⟩
/-- where none is chosen, none is left that is to be tried -/
theorem NO.end {X : Int → Int} {n tr x y : Int} (h : NO X n tr x y (-1) 9) (hn : n ≤ 8) (hx : n ≤ x ∨ tr = 0) {p : Nat} {q : Int} (e : Eo X n n 0 p q) : bt tr p ≠ true := fun w => by
  rcases hx with hx | hx
  · rcases h with ⟨_, _, c⟩ | ⟨_, _, i, c, a1, a2, a3, a4, _⟩
    · have bits : ∀ i c : Int, 0 ≤ i → i < c → c < n → ((p : Int) = i ∨ (p : Int) = c) → yand (yor (yshl 1 i) (yshl 1 c)) tr ≠ 0 := fun i c i1 ic c2 ep z => by
        have b : bt (yand (yor (yshl 1 i) (yshl 1 c)) tr) p = true := by
          rw [bt_yand, bt_yor, w, Bool.and_true, Bool.or_eq_true, bt_bit (by omega), bt_bit (by omega), decide_eq_true_eq, decide_eq_true_eq]
          omega
        rw [z, bt_0] at b
        cases b
      rcases e with ⟨a1, a2, a3, _, m⟩ | ⟨a1, a2, a3, _, m⟩
      · exact bits p q a1 a2 a3 (Or.inl rfl) (c p q a1 a2 a3 (by omega) m)
      · exact bits q p a1 a2 a3 (Or.inr rfl) (c q p a1 a2 a3 (by omega) m)
    · omega
  · rw [hx, bt_0] at w
    cases w
theorem NO.fin {X : Int → Int} {n tr x y b f z : Int} (h : NO X n tr x y b f) (hn : n ≤ 8) (hx : n ≤ x ∨ tr = 0) (hPT : z = 0 ∧ (∃ o : Int, PTn X n n 0 o tr) ∨ z ≠ 0 ∧ ∃ t : Int, PTn X n n 0 tr t) : b = -1 ∧ (z = 0 → ∀ p q q' : Int, q ≠ q' → Eo X n n 0 p q → ¬ Eo X n n 0 p q') ∧ (z ≠ 0 → ∀ p q : Int, ¬ Eo X n n 0 p q) ∨ ∃ i c : Int, 0 ≤ i ∧ i < c ∧ c < n ∧ b = 8 * i + c ∧ Om (X b) := by
  have nat : ∀ {p q : Int}, Eo X n n 0 p q → ∃ m : Nat, p = m := fun e => Int.eq_ofNat_of_zero_le (by rcases e with ⟨a, b, _⟩ | ⟨a, b, _⟩ <;> omega)
  by_cases hb : b = -1 ∧ f = 9
  · obtain ⟨rfl, rfl⟩ := hb
    refine Or.inl ⟨rfl, fun hz p q q' ne e1 e2 => ?_, fun hz p q e => ?_⟩
    · obtain ⟨m, rfl⟩ := nat e1
      obtain ⟨o, pt⟩ := hPT.elim (fun w => w.2) (fun w => absurd hz w.1)
      exact h.end hn hx e1 ((pt.2 m).mpr ⟨q, q', ne, e1, e2⟩)
    · obtain ⟨m, rfl⟩ := nat e
      obtain ⟨t, pt⟩ := hPT.elim (fun w => absurd w.1 hz) (fun w => w.2)
      exact h.end hn hx e ((pt.1 m).mpr ⟨q, e⟩)
  · rcases h with ⟨a, b', _⟩ | ⟨_, _, w⟩
    · exact absurd ⟨a, b'⟩ hb
    · exact Or.inr w
theorem n7_narrowestOpen {d : Nat} {Q : Int → yM → Prop} {M : yM} {x1 : Nat}  (hs : 1 ≤ ld M 22 6 ∧ ld M 22 6 ≤ 8) (hA : arrSh x1 64) (hX : ∀ p q : Int, 0 ≤ p → p < q → q < ld M 22 6 → 0 ≤ ld M x1 (8 * p + q) ∧ ld M x1 (8 * p + q) < 256) (kont : ∀ (v : Int), (v = -1 ∧ (ld M 22 10 = 0 → ∀ p q q' : Int, q ≠ q' → Eo (ld M x1) (ld M 22 6) (ld M 22 6) 0 p q → ¬ Eo (ld M x1) (ld M 22 6) (ld M 22 6) 0 p q') ∧ (ld M 22 10 ≠ 0 → ∀ p q : Int, ¬ Eo (ld M x1) (ld M 22 6) (ld M 22 6) 0 p q) ∨ ∃ i c : Int, 0 ≤ i ∧ i < c ∧ c < ld M 22 6 ∧ v = 8 * i + c ∧ Om (ld M x1 v)) → Q v M) : XCi (d + 1) 50 [.inr (.inr 22), .inr (.inr x1)] M Q := by
  refine eX7_narrowestOpen ?_
  have go : ∀ N : Nat, (∀ (x2 : Int) (x3 : Int) (x4 : Int) (x5 : Int) (wx6 : Option yV) (wx7 : Option yV), (ld M 22 10 = 0 ∧ (∃ o : Int, PTn (ld M x1) (ld M 22 6) (ld M 22 6) 0 o x2) ∨ ld M 22 10 ≠ 0 ∧ ∃ t : Int, PTn (ld M x1) (ld M 22 6) (ld M 22 6) 0 x2 t) → (0 ≤ x5 ∧ x5 ≤ 8) → (-2147483648 ≤ x3 ∧ x3 < 2147483648) → (-2147483648 ≤ x4 ∧ x4 < 2147483648) → (NO (ld M x1) (ld M 22 6) x2 x5 0 x3 x4) → (-2147483648 ≤ x2 ∧ x2 < 2147483648) → ((8 - x5) * 40 + 20 < (N : Int)) → XW kX7_narrowestOpen (d + 1) (some .int) (wQi Q) 15 [some (.inr (.inr 22)), some (.inr (.inr x1)), some (.inl x2), some (.inl x3), some (.inl x4), some (.inl x5), wx6, wx7] [] M) ∧ (∀ (x2 : Int) (x3 : Int) (x4 : Int) (x5 : Int) (x6 : Int) (wx7 : Option yV), (ld M 22 10 = 0 ∧ (∃ o : Int, PTn (ld M x1) (ld M 22 6) (ld M 22 6) 0 o x2) ∨ ld M 22 10 ≠ 0 ∧ ∃ t : Int, PTn (ld M x1) (ld M 22 6) (ld M 22 6) 0 x2 t) → (0 ≤ x5 ∧ x5 < ld M 22 6) → (x5 < x6 ∧ x6 ≤ 8) → (-2147483648 ≤ x3 ∧ x3 < 2147483648) → (-2147483648 ≤ x4 ∧ x4 < 2147483648) → (NO (ld M x1) (ld M 22 6) x2 x5 x6 x3 x4) → (-2147483648 ≤ x2 ∧ x2 < 2147483648) → ((8 - x5) * 40 + 8 - x6 < (N : Int)) → XW kX7_narrowestOpen (d + 1) (some .int) (wQi Q) 34 [some (.inr (.inr 22)), some (.inr (.inr x1)), some (.inl x2), some (.inl x3), some (.inl x4), some (.inl x5), some (.inl x6), wx7] [] M) := by
    intro N
    induction N with
    | zero => refine ⟨?_, ?_⟩ <;> (intros; exfalso; omega)
    | succ N ih =>
      obtain ⟨ih0, ih1⟩ := ih
      refine ⟨?_, ?_⟩
      · skip
        skip
        intro x2 x3 x4 x5 wx6 wx7 i0 i1 i2 i3 i4 i5 hm
        refine uX7_narrowestOpen_15 (by first | omega | assumption | with_reducible exact rng_ld _ _ _ | with_reducible exact rng_yand _ _ | with_reducible exact rng_yor _ _ | with_reducible exact rng_zcmp _ _ | with_reducible exact yand7 _ | with_reducible exact rng_toInt _ | with_reducible exact yarr23 (by omega) | with_reducible exact yarr57 (by omega) | with_reducible exact Or.inl rfl | with_reducible exact Or.inr rfl) (fun hc => ?_) (fun hc => ?_)
        · skip
          refine uX7_narrowestOpen_110 ?_
          exact kont _ (i4.fin (by omega) (by first | exact Or.inl (by omega) | exact Or.inr (by omega)) i0)
        · skip
          refine uX7_narrowestOpen_24 (by first | omega | assumption | with_reducible exact rng_ld _ _ _ | with_reducible exact rng_yand _ _ | with_reducible exact rng_yor _ _ | with_reducible exact rng_zcmp _ _ | with_reducible exact yand7 _ | with_reducible exact rng_toInt _ | with_reducible exact yarr23 (by omega) | with_reducible exact yarr57 (by omega) | with_reducible exact Or.inl rfl | with_reducible exact Or.inr rfl) (fun hc => ?_) (fun hc => ?_)
          · skip
            refine uX7_narrowestOpen_110 ?_
            exact kont _ (i4.fin (by omega) (by first | exact Or.inl (by omega) | exact Or.inr (by omega)) i0)
          · skip
            refine uX7_narrowestOpen_28 ?_
            exact ih1 _ _ _ _ _ _  (by assumption) (by first | omega | assumption | with_reducible exact rng_ld _ _ _ | with_reducible exact rng_yand _ _ | with_reducible exact rng_yor _ _ | with_reducible exact rng_zcmp _ _ | with_reducible exact yand7 _ | with_reducible exact rng_toInt _ | with_reducible exact yarr23 (by omega) | with_reducible exact yarr57 (by omega) | with_reducible exact Or.inl rfl | with_reducible exact Or.inr rfl) (by first | omega | assumption | with_reducible exact rng_ld _ _ _ | with_reducible exact rng_yand _ _ | with_reducible exact rng_yor _ _ | with_reducible exact rng_zcmp _ _ | with_reducible exact yand7 _ | with_reducible exact rng_toInt _ | with_reducible exact yarr23 (by omega) | with_reducible exact yarr57 (by omega) | with_reducible exact Or.inl rfl | with_reducible exact Or.inr rfl) (by first | omega | assumption | with_reducible exact rng_ld _ _ _ | with_reducible exact rng_yand _ _ | with_reducible exact rng_yor _ _ | with_reducible exact rng_zcmp _ _ | with_reducible exact yand7 _ | with_reducible exact rng_toInt _ | with_reducible exact yarr23 (by omega) | with_reducible exact yarr57 (by omega) | with_reducible exact Or.inl rfl | with_reducible exact Or.inr rfl) (by first | omega | assumption | with_reducible exact rng_ld _ _ _ | with_reducible exact rng_yand _ _ | with_reducible exact rng_yor _ _ | with_reducible exact rng_zcmp _ _ | with_reducible exact yand7 _ | with_reducible exact rng_toInt _ | with_reducible exact yarr23 (by omega) | with_reducible exact yarr57 (by omega) | with_reducible exact Or.inl rfl | with_reducible exact Or.inr rfl) (by first | exact i4.inn | exact NO.set (by omega) (ob.1.mpr (by omega)) (by omega) | exact i5.sk (Or.inl (fun q => absurd (ob.1.mp q) (by omega))) | exact i5.sk (Or.inr (Or.inr (Or.inl (by assumption)))) | exact i5.sk (Or.inr (Or.inr (Or.inr (by omega))))) (by first | omega | assumption | with_reducible exact rng_ld _ _ _ | with_reducible exact rng_yand _ _ | with_reducible exact rng_yor _ _ | with_reducible exact rng_zcmp _ _ | with_reducible exact yand7 _ | with_reducible exact rng_toInt _ | with_reducible exact yarr23 (by omega) | with_reducible exact yarr57 (by omega) | with_reducible exact Or.inl rfl | with_reducible exact Or.inr rfl) (by omega)
      · skip
        skip
        intro x2 x3 x4 x5 x6 wx7 i0 i1 i2 i3 i4 i5 i6 hm
        refine uX7_narrowestOpen_34 (by first | omega | assumption | with_reducible exact rng_ld _ _ _ | with_reducible exact rng_yand _ _ | with_reducible exact rng_yor _ _ | with_reducible exact rng_zcmp _ _ | with_reducible exact yand7 _ | with_reducible exact rng_toInt _ | with_reducible exact yarr23 (by omega) | with_reducible exact yarr57 (by omega) | with_reducible exact Or.inl rfl | with_reducible exact Or.inr rfl) (fun hc => ?_) (fun hc => ?_)
        · skip
          refine uX7_narrowestOpen_104 ?_
          exact ih0 _ _ _ _ _ _  (by first | exact hPT | assumption) (by first | omega | assumption | with_reducible exact rng_ld _ _ _ | with_reducible exact rng_yand _ _ | with_reducible exact rng_yor _ _ | with_reducible exact rng_zcmp _ _ | with_reducible exact yand7 _ | with_reducible exact rng_toInt _ | with_reducible exact yarr23 (by omega) | with_reducible exact yarr57 (by omega) | with_reducible exact Or.inl rfl | with_reducible exact Or.inr rfl) (by first | omega | assumption | with_reducible exact rng_ld _ _ _ | with_reducible exact rng_yand _ _ | with_reducible exact rng_yor _ _ | with_reducible exact rng_zcmp _ _ | with_reducible exact yand7 _ | with_reducible exact rng_toInt _ | with_reducible exact yarr23 (by omega) | with_reducible exact yarr57 (by omega) | with_reducible exact Or.inl rfl | with_reducible exact Or.inr rfl) (by first | omega | assumption | with_reducible exact rng_ld _ _ _ | with_reducible exact rng_yand _ _ | with_reducible exact rng_yor _ _ | with_reducible exact rng_zcmp _ _ | with_reducible exact yand7 _ | with_reducible exact rng_toInt _ | with_reducible exact yarr23 (by omega) | with_reducible exact yarr57 (by omega) | with_reducible exact Or.inl rfl | with_reducible exact Or.inr rfl) (by first | exact NO.z | exact i5.row (by omega)) (by first | omega | assumption | with_reducible exact rng_ld _ _ _ | with_reducible exact rng_yand _ _ | with_reducible exact rng_yor _ _ | with_reducible exact rng_zcmp _ _ | with_reducible exact yand7 _ | with_reducible exact rng_toInt _ | with_reducible exact yarr23 (by omega) | with_reducible exact yarr57 (by omega) | with_reducible exact Or.inl rfl | with_reducible exact Or.inr rfl) (by omega)
        · skip
          have ob := om_bc (hX x5 x6 (by omega) (by omega) (by omega))
          refine uX7_narrowestOpen_43 (by first | assumption | exact ⟨rfl, Nat.le_of_ble_eq_true rfl⟩ | with_reducible exact yarr23 (by omega) | with_reducible exact yarr57 (by omega)) (by first | omega | assumption | with_reducible exact rng_ld _ _ _ | with_reducible exact rng_yand _ _ | with_reducible exact rng_yor _ _ | with_reducible exact rng_zcmp _ _ | with_reducible exact yand7 _ | with_reducible exact rng_toInt _ | with_reducible exact yarr23 (by omega) | with_reducible exact yarr57 (by omega) | with_reducible exact Or.inl rfl | with_reducible exact Or.inr rfl) ?_
          refine cJ6   ?_
          refine uX7_narrowestOpen_56 (by first | omega | assumption | with_reducible exact rng_ld _ _ _ | with_reducible exact rng_yand _ _ | with_reducible exact rng_yor _ _ | with_reducible exact rng_zcmp _ _ | with_reducible exact yand7 _ | with_reducible exact rng_toInt _ | with_reducible exact yarr23 (by omega) | with_reducible exact yarr57 (by omega) | with_reducible exact Or.inl rfl | with_reducible exact Or.inr rfl) (fun hc => ?_) (fun hc => ?_)
          · skip
            refine uX7_narrowestOpen_98 ?_
            exact ih1 _ _ _ _ _ _  (by assumption) (by first | omega | assumption | with_reducible exact rng_ld _ _ _ | with_reducible exact rng_yand _ _ | with_reducible exact rng_yor _ _ | with_reducible exact rng_zcmp _ _ | with_reducible exact yand7 _ | with_reducible exact rng_toInt _ | with_reducible exact yarr23 (by omega) | with_reducible exact yarr57 (by omega) | with_reducible exact Or.inl rfl | with_reducible exact Or.inr rfl) (by first | omega | assumption | with_reducible exact rng_ld _ _ _ | with_reducible exact rng_yand _ _ | with_reducible exact rng_yor _ _ | with_reducible exact rng_zcmp _ _ | with_reducible exact yand7 _ | with_reducible exact rng_toInt _ | with_reducible exact yarr23 (by omega) | with_reducible exact yarr57 (by omega) | with_reducible exact Or.inl rfl | with_reducible exact Or.inr rfl) (by first | omega | assumption | with_reducible exact rng_ld _ _ _ | with_reducible exact rng_yand _ _ | with_reducible exact rng_yor _ _ | with_reducible exact rng_zcmp _ _ | with_reducible exact yand7 _ | with_reducible exact rng_toInt _ | with_reducible exact yarr23 (by omega) | with_reducible exact yarr57 (by omega) | with_reducible exact Or.inl rfl | with_reducible exact Or.inr rfl) (by first | omega | assumption | with_reducible exact rng_ld _ _ _ | with_reducible exact rng_yand _ _ | with_reducible exact rng_yor _ _ | with_reducible exact rng_zcmp _ _ | with_reducible exact yand7 _ | with_reducible exact rng_toInt _ | with_reducible exact yarr23 (by omega) | with_reducible exact yarr57 (by omega) | with_reducible exact Or.inl rfl | with_reducible exact Or.inr rfl) (by first | exact i4.inn | exact NO.set (by omega) (ob.1.mpr (by omega)) (by omega) | exact i5.sk (Or.inl (fun q => absurd (ob.1.mp q) (by omega))) | exact i5.sk (Or.inr (Or.inr (Or.inl (by assumption)))) | exact i5.sk (Or.inr (Or.inr (Or.inr (by omega))))) (by first | omega | assumption | with_reducible exact rng_ld _ _ _ | with_reducible exact rng_yand _ _ | with_reducible exact rng_yor _ _ | with_reducible exact rng_zcmp _ _ | with_reducible exact yand7 _ | with_reducible exact rng_toInt _ | with_reducible exact yarr23 (by omega) | with_reducible exact yarr57 (by omega) | with_reducible exact Or.inl rfl | with_reducible exact Or.inr rfl) (by omega)
          · skip
            refine uX7_narrowestOpen_64 (by first | omega | assumption | with_reducible exact rng_ld _ _ _ | with_reducible exact rng_yand _ _ | with_reducible exact rng_yor _ _ | with_reducible exact rng_zcmp _ _ | with_reducible exact yand7 _ | with_reducible exact rng_toInt _ | with_reducible exact yarr23 (by omega) | with_reducible exact yarr57 (by omega) | with_reducible exact Or.inl rfl | with_reducible exact Or.inr rfl) (by first | omega | assumption | with_reducible exact rng_ld _ _ _ | with_reducible exact rng_yand _ _ | with_reducible exact rng_yor _ _ | with_reducible exact rng_zcmp _ _ | with_reducible exact yand7 _ | with_reducible exact rng_toInt _ | with_reducible exact yarr23 (by omega) | with_reducible exact yarr57 (by omega) | with_reducible exact Or.inl rfl | with_reducible exact Or.inr rfl) (fun hc => ?_) (fun hc => ?_)
            · skip
              refine uX7_narrowestOpen_98 ?_
              exact ih1 _ _ _ _ _ _  (by assumption) (by first | omega | assumption | with_reducible exact rng_ld _ _ _ | with_reducible exact rng_yand _ _ | with_reducible exact rng_yor _ _ | with_reducible exact rng_zcmp _ _ | with_reducible exact yand7 _ | with_reducible exact rng_toInt _ | with_reducible exact yarr23 (by omega) | with_reducible exact yarr57 (by omega) | with_reducible exact Or.inl rfl | with_reducible exact Or.inr rfl) (by first | omega | assumption | with_reducible exact rng_ld _ _ _ | with_reducible exact rng_yand _ _ | with_reducible exact rng_yor _ _ | with_reducible exact rng_zcmp _ _ | with_reducible exact yand7 _ | with_reducible exact rng_toInt _ | with_reducible exact yarr23 (by omega) | with_reducible exact yarr57 (by omega) | with_reducible exact Or.inl rfl | with_reducible exact Or.inr rfl) (by first | omega | assumption | with_reducible exact rng_ld _ _ _ | with_reducible exact rng_yand _ _ | with_reducible exact rng_yor _ _ | with_reducible exact rng_zcmp _ _ | with_reducible exact yand7 _ | with_reducible exact rng_toInt _ | with_reducible exact yarr23 (by omega) | with_reducible exact yarr57 (by omega) | with_reducible exact Or.inl rfl | with_reducible exact Or.inr rfl) (by first | omega | assumption | with_reducible exact rng_ld _ _ _ | with_reducible exact rng_yand _ _ | with_reducible exact rng_yor _ _ | with_reducible exact rng_zcmp _ _ | with_reducible exact yand7 _ | with_reducible exact rng_toInt _ | with_reducible exact yarr23 (by omega) | with_reducible exact yarr57 (by omega) | with_reducible exact Or.inl rfl | with_reducible exact Or.inr rfl) (by first | exact i4.inn | exact NO.set (by omega) (ob.1.mpr (by omega)) (by omega) | exact i5.sk (Or.inl (fun q => absurd (ob.1.mp q) (by omega))) | exact i5.sk (Or.inr (Or.inr (Or.inl (by assumption)))) | exact i5.sk (Or.inr (Or.inr (Or.inr (by omega))))) (by first | omega | assumption | with_reducible exact rng_ld _ _ _ | with_reducible exact rng_yand _ _ | with_reducible exact rng_yor _ _ | with_reducible exact rng_zcmp _ _ | with_reducible exact yand7 _ | with_reducible exact rng_toInt _ | with_reducible exact yarr23 (by omega) | with_reducible exact yarr57 (by omega) | with_reducible exact Or.inl rfl | with_reducible exact Or.inr rfl) (by omega)
            · skip
              refine uX7_narrowestOpen_71 (fun hc => ?_) (fun hc => ?_)
              · skip
                refine uX7_narrowestOpen_98 ?_
                exact ih1 _ _ _ _ _ _  (by assumption) (by first | omega | assumption | with_reducible exact rng_ld _ _ _ | with_reducible exact rng_yand _ _ | with_reducible exact rng_yor _ _ | with_reducible exact rng_zcmp _ _ | with_reducible exact yand7 _ | with_reducible exact rng_toInt _ | with_reducible exact yarr23 (by omega) | with_reducible exact yarr57 (by omega) | with_reducible exact Or.inl rfl | with_reducible exact Or.inr rfl) (by first | omega | assumption | with_reducible exact rng_ld _ _ _ | with_reducible exact rng_yand _ _ | with_reducible exact rng_yor _ _ | with_reducible exact rng_zcmp _ _ | with_reducible exact yand7 _ | with_reducible exact rng_toInt _ | with_reducible exact yarr23 (by omega) | with_reducible exact yarr57 (by omega) | with_reducible exact Or.inl rfl | with_reducible exact Or.inr rfl) (by first | omega | assumption | with_reducible exact rng_ld _ _ _ | with_reducible exact rng_yand _ _ | with_reducible exact rng_yor _ _ | with_reducible exact rng_zcmp _ _ | with_reducible exact yand7 _ | with_reducible exact rng_toInt _ | with_reducible exact yarr23 (by omega) | with_reducible exact yarr57 (by omega) | with_reducible exact Or.inl rfl | with_reducible exact Or.inr rfl) (by first | omega | assumption | with_reducible exact rng_ld _ _ _ | with_reducible exact rng_yand _ _ | with_reducible exact rng_yor _ _ | with_reducible exact rng_zcmp _ _ | with_reducible exact yand7 _ | with_reducible exact rng_toInt _ | with_reducible exact yarr23 (by omega) | with_reducible exact yarr57 (by omega) | with_reducible exact Or.inl rfl | with_reducible exact Or.inr rfl) (by first | exact i4.inn | exact NO.set (by omega) (ob.1.mpr (by omega)) (by omega) | exact i5.sk (Or.inl (fun q => absurd (ob.1.mp q) (by omega))) | exact i5.sk (Or.inr (Or.inr (Or.inl (by assumption)))) | exact i5.sk (Or.inr (Or.inr (Or.inr (by omega))))) (by first | omega | assumption | with_reducible exact rng_ld _ _ _ | with_reducible exact rng_yand _ _ | with_reducible exact rng_yor _ _ | with_reducible exact rng_zcmp _ _ | with_reducible exact yand7 _ | with_reducible exact rng_toInt _ | with_reducible exact yarr23 (by omega) | with_reducible exact yarr57 (by omega) | with_reducible exact Or.inl rfl | with_reducible exact Or.inr rfl) (by omega)
              · skip
                refine uX7_narrowestOpen_85 ?_
                refine uX7_narrowestOpen_98 ?_
                exact ih1 _ _ _ _ _ _  (by assumption) (by first | omega | assumption | with_reducible exact rng_ld _ _ _ | with_reducible exact rng_yand _ _ | with_reducible exact rng_yor _ _ | with_reducible exact rng_zcmp _ _ | with_reducible exact yand7 _ | with_reducible exact rng_toInt _ | with_reducible exact yarr23 (by omega) | with_reducible exact yarr57 (by omega) | with_reducible exact Or.inl rfl | with_reducible exact Or.inr rfl) (by first | omega | assumption | with_reducible exact rng_ld _ _ _ | with_reducible exact rng_yand _ _ | with_reducible exact rng_yor _ _ | with_reducible exact rng_zcmp _ _ | with_reducible exact yand7 _ | with_reducible exact rng_toInt _ | with_reducible exact yarr23 (by omega) | with_reducible exact yarr57 (by omega) | with_reducible exact Or.inl rfl | with_reducible exact Or.inr rfl) (by first | omega | assumption | with_reducible exact rng_ld _ _ _ | with_reducible exact rng_yand _ _ | with_reducible exact rng_yor _ _ | with_reducible exact rng_zcmp _ _ | with_reducible exact yand7 _ | with_reducible exact rng_toInt _ | with_reducible exact yarr23 (by omega) | with_reducible exact yarr57 (by omega) | with_reducible exact Or.inl rfl | with_reducible exact Or.inr rfl) (by first | omega | assumption | with_reducible exact rng_ld _ _ _ | with_reducible exact rng_yand _ _ | with_reducible exact rng_yor _ _ | with_reducible exact rng_zcmp _ _ | with_reducible exact yand7 _ | with_reducible exact rng_toInt _ | with_reducible exact yarr23 (by omega) | with_reducible exact yarr57 (by omega) | with_reducible exact Or.inl rfl | with_reducible exact Or.inr rfl) (by first | exact i4.inn | exact NO.set (by omega) (ob.1.mpr (by omega)) (by omega) | exact i5.sk (Or.inl (fun q => absurd (ob.1.mp q) (by omega))) | exact i5.sk (Or.inr (Or.inr (Or.inl (by assumption)))) | exact i5.sk (Or.inr (Or.inr (Or.inr (by omega))))) (by first | omega | assumption | with_reducible exact rng_ld _ _ _ | with_reducible exact rng_yand _ _ | with_reducible exact rng_yor _ _ | with_reducible exact rng_zcmp _ _ | with_reducible exact yand7 _ | with_reducible exact rng_toInt _ | with_reducible exact yarr23 (by omega) | with_reducible exact yarr57 (by omega) | with_reducible exact Or.inl rfl | with_reducible exact Or.inr rfl) (by omega)
  refine uX7_narrowestOpen_0 ?_
  refine n7_pointsToTry  (by first | omega | assumption | with_reducible exact rng_ld _ _ _ | with_reducible exact rng_yand _ _ | with_reducible exact rng_yor _ _ | with_reducible exact rng_zcmp _ _ | with_reducible exact yand7 _ | with_reducible exact rng_toInt _ | with_reducible exact yarr23 (by omega) | with_reducible exact yarr57 (by omega) | with_reducible exact Or.inl rfl | with_reducible exact Or.inr rfl) (by first | assumption | exact ⟨rfl, Nat.le_of_ble_eq_true rfl⟩ | with_reducible exact yarr23 (by omega) | with_reducible exact yarr57 (by omega)) (fun tr p4a p4b => ?_)
  have hPT := p4a
  have htr := p4b
  refine uX7_narrowestOpen_5 ?_
  exact (go 1000000).1 _ _ _ _ _ _  (by first | exact hPT | assumption) (by first | omega | assumption | with_reducible exact rng_ld _ _ _ | with_reducible exact rng_yand _ _ | with_reducible exact rng_yor _ _ | with_reducible exact rng_zcmp _ _ | with_reducible exact yand7 _ | with_reducible exact rng_toInt _ | with_reducible exact yarr23 (by omega) | with_reducible exact yarr57 (by omega) | with_reducible exact Or.inl rfl | with_reducible exact Or.inr rfl) (by first | omega | assumption | with_reducible exact rng_ld _ _ _ | with_reducible exact rng_yand _ _ | with_reducible exact rng_yor _ _ | with_reducible exact rng_zcmp _ _ | with_reducible exact yand7 _ | with_reducible exact rng_toInt _ | with_reducible exact yarr23 (by omega) | with_reducible exact yarr57 (by omega) | with_reducible exact Or.inl rfl | with_reducible exact Or.inr rfl) (by first | omega | assumption | with_reducible exact rng_ld _ _ _ | with_reducible exact rng_yand _ _ | with_reducible exact rng_yor _ _ | with_reducible exact rng_zcmp _ _ | with_reducible exact yand7 _ | with_reducible exact rng_toInt _ | with_reducible exact yarr23 (by omega) | with_reducible exact yarr57 (by omega) | with_reducible exact Or.inl rfl | with_reducible exact Or.inr rfl) (by first | exact NO.z | exact i5.row (by omega)) (by first | omega | assumption | with_reducible exact rng_ld _ _ _ | with_reducible exact rng_yand _ _ | with_reducible exact rng_yor _ _ | with_reducible exact rng_zcmp _ _ | with_reducible exact yand7 _ | with_reducible exact rng_toInt _ | with_reducible exact yarr23 (by omega) | with_reducible exact yarr57 (by omega) | with_reducible exact Or.inl rfl | with_reducible exact Or.inr rfl) (by omega)
/-! PAIRS THAT NOT ALL IS TOLD OF; A BOX -/
def PN (X : Int → Int) (a n x y l : Int) : Prop := ∀ p : Int, 0 ≤ p → p < 64 → (lbt l p = true ↔ ∃ i c : Int, 0 ≤ i ∧ i < c ∧ c < n ∧ (i < x ∨ i = x ∧ c < y) ∧ p = 8 * i + c ∧ X (8 * i + c) ≠ a)
section
variable {X : Int → Int} {a n x y l : Int}
theorem PN.cg {x' y' : Int} (h : PN X a n x y l) (e : ∀ i c : Int, 0 ≤ i → i < c → c < n → X (8 * i + c) ≠ a → ((i < x ∨ i = x ∧ c < y) ↔ (i < x' ∨ i = x' ∧ c < y'))) : PN X a n x' y' l := fun p p1 p2 => by
  rw [h p p1 p2]
  constructor
  · rintro ⟨i, c, h1, h2, h3, h4, h5, h6⟩
    exact ⟨i, c, h1, h2, h3, (e i c h1 h2 h3 h6).mp h4, h5, h6⟩
  · rintro ⟨i, c, h1, h2, h3, h4, h5, h6⟩
    exact ⟨i, c, h1, h2, h3, (e i c h1 h2 h3 h6).mpr h4, h5, h6⟩
theorem PN.z : PN X a n 0 0 0 := fun p p1 p2 => by
  rw [lbt_0]
  refine ⟨fun w => (by cases w), ?_⟩
  rintro ⟨i, c, h1, h2, h3, h4, h5, h6⟩
  omega
theorem PN.row (h : PN X a n x y l) (hy : n ≤ y) : PN X a n (x + 1) 0 l := h.cg (fun i c h1 h2 h3 _ => by omega)
theorem PN.inn (h : PN X a n x 0 l) : PN X a n x (x + 1) l := h.cg (fun i c h1 h2 h3 _ => by omega)
theorem PN.end (h : PN X a n x 0 l) (hx : n ≤ x) : PN X a n n 0 l := h.cg (fun i c h1 h2 h3 _ => by omega)
theorem PN.no (h : PN X a n x y l) (hm : X (8 * x + y) = a) : PN X a n x (y + 1) l := h.cg (fun i c h1 h2 h3 h6 => by
  have ne : ¬ (i = x ∧ c = y) := fun e => by rw [e.1, e.2] at h6; exact h6 hm
  omega)
theorem PN.s (h : PN X a n x y l) (hx : 0 ≤ x ∧ x < y ∧ y < n ∧ n ≤ 8) (hm : X (8 * x + y) ≠ a) : PN X a n x (y + 1) (zor l (pbit x y)) := fun p p1 p2 => by
  rw [lbt_zor, Bool.or_eq_true, h p p1 p2, lbt_pb (by omega) (by omega) p1, decide_eq_true_eq, if_pos (by omega)]
  constructor
  · rintro (⟨i, c, h1, h2, h3, h4, h5, h6⟩ | e)
    · exact ⟨i, c, h1, h2, h3, by omega, h5, h6⟩
    · exact ⟨x, y, hx.1, hx.2.1, hx.2.2.1, by omega, e, hm⟩
  · rintro ⟨i, c, h1, h2, h3, h4, h5, h6⟩
    by_cases e : i = x ∧ c = y
    · exact Or.inr (by omega)
    · exact Or.inl ⟨i, c, h1, h2, h3, by omega, h5, h6⟩
end
/-- what isn't marked has all kinds: nothing spreads from there -/
theorem vs_pn {T f X : Int → Int} {k n l : Int} (hT : TH T f k) (hn : n ≤ 8) (hX : SN f k n X) (hU : ∀ b : Int, 0 ≤ b → b < k → bt (T (8 * 0 + b)) b.toNat = true) (h : PN X (al k) n n 0 l) : VS T k n X (lbt l) := fun a b c a1 a2 b1 b2 c1 c2 ab bc ac d1 d2 => by
  have hk := hT.1
  have h8 := al_le hk
  have key : ∀ a b : Int, 0 ≤ a → a < n → 0 ≤ b → b < n → a ≠ b → lbt l (pi2 a b) = false → X (8 * a + b) = al k := fun a b a1 a2 b1 b2 ab d => by
    have up : ∀ i c : Int, 0 ≤ i → i < c → c < n → lbt l (8 * i + c) = false → X (8 * i + c) = al k := fun i c i1 ic cn d => by
      apply Classical.byContradiction
      intro q
      rw [(h (8 * i + c) (by omega) (by omega)).mpr ⟨i, c, i1, ic, cn, by omega, rfl, q⟩] at d
      cases d
    rcases Int.lt_or_gt_of_ne ab with w | w
    · have e : pi2 a b = 8 * a + b := by unfold pi2; rw [if_pos w]
      rw [e] at d
      exact up a b a1 w b2 d
    · have e : pi2 a b = 8 * b + a := by unfold pi2; rw [if_neg (by omega)]
      rw [e] at d
      have u := up b a b1 w a2 d
      rw [(hX b a b1 b2 a1 a2 (fun z => ab z.symm)).2, u]
      exact tOf_al hT.2.1 hk
  have sal : Se k (al k) := ⟨by omega, Int.le_refl _⟩
  have yx := (hX a c a1 a2 c1 c2 ac).1.y hk
  show Sub (X (8 * a + c)) (jP T k (X (8 * a + b)) (X (8 * b + c)))
  rw [key a b a1 a2 b1 b2 ab d1, key b c b1 b2 c1 c2 bc d2]
  refine sub_of yx (fun t q => ?_)
  have tk := bt_al (by omega) (hX a c a1 a2 c1 c2 ac).1 q
  have ball : ∀ m : Nat, m < k.toNat → bt (al k) m = true := fun m hm => by
    have e : al k = (2 : Int) ^ k.toNat - 1 := by rw [al_def]
    rw [e, al_bt k.toNat (by omega) m (by omega), decide_eq_true_eq]
    exact hm
  have u := hU (t : Int) (by omega) (by omega)
  rw [Int.toNat_natCast] at u
  exact (jP_bt hk sal sal t).mpr ⟨0, t, by omega, by omega, ball _ (by omega), by rw [Int.toNat_natCast]; exact ball _ tk, u⟩
theorem n7_pairsNotAll {d : Nat} {Q : Int → yM → Prop} {M : yM}   (hs : 1 ≤ ld M 22 6 ∧ ld M 22 6 ≤ 8) (hk : 1 ≤ ld M 1 0 ∧ ld M 1 0 ≤ 8) (kont : ∀ (v : Int), (PN (ld M 24) (al (ld M 1 0)) (ld M 22 6) (ld M 22 6) 0 v) → Q v M) : XCl (d + 1) 48 [.inr (.inr 22)] M Q := by
  refine eX7_pairsNotAll ?_
  have hal := al_le hk
  have go : ∀ N : Nat, (∀ (x1 : Int) (x3 : Int) (wx4 : Option yV), (0 ≤ x3 ∧ x3 ≤ 8) → (PN (ld M 24) (al (ld M 1 0)) (ld M 22 6) x3 0 x1) → ((8 - x3) * 40 + 20 < (N : Int)) → XW kX7_pairsNotAll (d + 1) (some .long) (wQl Q) 4 [some (.inr (.inr 22)), some (.inr (.inl x1)), none, some (.inl x3), wx4] [] M) ∧ (∀ (x1 : Int) (x3 : Int) (x4 : Int), (0 ≤ x3 ∧ x3 < ld M 22 6) → (x3 < x4 ∧ x4 ≤ 8) → (PN (ld M 24) (al (ld M 1 0)) (ld M 22 6) x3 x4 x1) → ((8 - x3) * 40 + 8 - x4 < (N : Int)) → XW kX7_pairsNotAll (d + 1) (some .long) (wQl Q) 17 [some (.inr (.inr 22)), some (.inr (.inl x1)), none, some (.inl x3), some (.inl x4)] [] M) := by
    intro N
    induction N with
    | zero => refine ⟨?_, ?_⟩ <;> (intros; exfalso; omega)
    | succ N ih =>
      obtain ⟨ih0, ih1⟩ := ih
      refine ⟨?_, ?_⟩
      · skip
        skip
        intro x1 x3 wx4 i0 i1 hm
        refine uX7_pairsNotAll_4 (by first | omega | assumption | with_reducible exact rng_ld _ _ _ | with_reducible exact rng_yand _ _ | with_reducible exact rng_yor _ _ | with_reducible exact rng_zcmp _ _ | with_reducible exact yand7 _ | with_reducible exact rng_toInt _ | with_reducible exact yarr23 (by omega) | with_reducible exact yarr57 (by omega) | with_reducible exact Or.inl rfl | with_reducible exact Or.inr rfl) (fun hc => ?_) (fun hc => ?_)
        · skip
          refine uX7_pairsNotAll_71 ?_
          exact kont _ (i1.end (by omega))
        · skip
          refine uX7_pairsNotAll_12 ?_
          exact ih1 _ _ _  (by first | omega | assumption | with_reducible exact rng_ld _ _ _ | with_reducible exact rng_yand _ _ | with_reducible exact rng_yor _ _ | with_reducible exact rng_zcmp _ _ | with_reducible exact yand7 _ | with_reducible exact rng_toInt _ | with_reducible exact yarr23 (by omega) | with_reducible exact yarr57 (by omega) | with_reducible exact Or.inl rfl | with_reducible exact Or.inr rfl) (by first | omega | assumption | with_reducible exact rng_ld _ _ _ | with_reducible exact rng_yand _ _ | with_reducible exact rng_yor _ _ | with_reducible exact rng_zcmp _ _ | with_reducible exact yand7 _ | with_reducible exact rng_toInt _ | with_reducible exact yarr23 (by omega) | with_reducible exact yarr57 (by omega) | with_reducible exact Or.inl rfl | with_reducible exact Or.inr rfl) (by first | exact i1.inn | exact i2.s (by omega) (by assumption) | exact i2.no (by assumption)) (by omega)
      · skip
        skip
        intro x1 x3 x4 i0 i1 i2 hm
        refine uX7_pairsNotAll_17 (by first | omega | assumption | with_reducible exact rng_ld _ _ _ | with_reducible exact rng_yand _ _ | with_reducible exact rng_yor _ _ | with_reducible exact rng_zcmp _ _ | with_reducible exact yand7 _ | with_reducible exact rng_toInt _ | with_reducible exact yarr23 (by omega) | with_reducible exact yarr57 (by omega) | with_reducible exact Or.inl rfl | with_reducible exact Or.inr rfl) (fun hc => ?_) (fun hc => ?_)
        · skip
          refine uX7_pairsNotAll_65 ?_
          exact ih0 _ _ _  (by first | omega | assumption | with_reducible exact rng_ld _ _ _ | with_reducible exact rng_yand _ _ | with_reducible exact rng_yor _ _ | with_reducible exact rng_zcmp _ _ | with_reducible exact yand7 _ | with_reducible exact rng_toInt _ | with_reducible exact yarr23 (by omega) | with_reducible exact yarr57 (by omega) | with_reducible exact Or.inl rfl | with_reducible exact Or.inr rfl) (by first | exact PN.z | exact i2.row (by omega)) (by omega)
        · skip
          refine uX7_pairsNotAll_26 (by first | omega | assumption | with_reducible exact rng_ld _ _ _ | with_reducible exact rng_yand _ _ | with_reducible exact rng_yor _ _ | with_reducible exact rng_zcmp _ _ | with_reducible exact yand7 _ | with_reducible exact rng_toInt _ | with_reducible exact yarr23 (by omega) | with_reducible exact yarr57 (by omega) | with_reducible exact Or.inl rfl | with_reducible exact Or.inr rfl) ?_
          refine c9_all  (by first | omega | assumption | with_reducible exact rng_ld _ _ _ | with_reducible exact rng_yand _ _ | with_reducible exact rng_yor _ _ | with_reducible exact rng_zcmp _ _ | with_reducible exact yand7 _ | with_reducible exact rng_toInt _ | with_reducible exact yarr23 (by omega) | with_reducible exact yarr57 (by omega) | with_reducible exact Or.inl rfl | with_reducible exact Or.inr rfl) ?_
          refine uX7_pairsNotAll_47 (by first | omega | assumption | with_reducible exact rng_ld _ _ _ | with_reducible exact rng_yand _ _ | with_reducible exact rng_yor _ _ | with_reducible exact rng_zcmp _ _ | with_reducible exact yand7 _ | with_reducible exact rng_toInt _ | with_reducible exact yarr23 (by omega) | with_reducible exact yarr57 (by omega) | with_reducible exact Or.inl rfl | with_reducible exact Or.inr rfl) (by first | omega | assumption | with_reducible exact rng_ld _ _ _ | with_reducible exact rng_yand _ _ | with_reducible exact rng_yor _ _ | with_reducible exact rng_zcmp _ _ | with_reducible exact yand7 _ | with_reducible exact rng_toInt _ | with_reducible exact yarr23 (by omega) | with_reducible exact yarr57 (by omega) | with_reducible exact Or.inl rfl | with_reducible exact Or.inr rfl) (fun hc => ?_) (fun hc => ?_)
          · skip
            refine uX7_pairsNotAll_59 ?_
            exact ih1 _ _ _  (by first | omega | assumption | with_reducible exact rng_ld _ _ _ | with_reducible exact rng_yand _ _ | with_reducible exact rng_yor _ _ | with_reducible exact rng_zcmp _ _ | with_reducible exact yand7 _ | with_reducible exact rng_toInt _ | with_reducible exact yarr23 (by omega) | with_reducible exact yarr57 (by omega) | with_reducible exact Or.inl rfl | with_reducible exact Or.inr rfl) (by first | omega | assumption | with_reducible exact rng_ld _ _ _ | with_reducible exact rng_yand _ _ | with_reducible exact rng_yor _ _ | with_reducible exact rng_zcmp _ _ | with_reducible exact yand7 _ | with_reducible exact rng_toInt _ | with_reducible exact yarr23 (by omega) | with_reducible exact yarr57 (by omega) | with_reducible exact Or.inl rfl | with_reducible exact Or.inr rfl) (by first | exact i1.inn | exact i2.s (by omega) (by assumption) | exact i2.no (by assumption)) (by omega)
          · skip
            refine uX7_pairsNotAll_50 ?_
            refine c11_pairBit  (by first | omega | assumption | with_reducible exact rng_ld _ _ _ | with_reducible exact rng_yand _ _ | with_reducible exact rng_yor _ _ | with_reducible exact rng_zcmp _ _ | with_reducible exact yand7 _ | with_reducible exact rng_toInt _ | with_reducible exact yarr23 (by omega) | with_reducible exact yarr57 (by omega) | with_reducible exact Or.inl rfl | with_reducible exact Or.inr rfl) (by first | omega | assumption | with_reducible exact rng_ld _ _ _ | with_reducible exact rng_yand _ _ | with_reducible exact rng_yor _ _ | with_reducible exact rng_zcmp _ _ | with_reducible exact yand7 _ | with_reducible exact rng_toInt _ | with_reducible exact yarr23 (by omega) | with_reducible exact yarr57 (by omega) | with_reducible exact Or.inl rfl | with_reducible exact Or.inr rfl) ?_
            refine uX7_pairsNotAll_57 ?_
            refine uX7_pairsNotAll_59 ?_
            exact ih1 _ _ _  (by first | omega | assumption | with_reducible exact rng_ld _ _ _ | with_reducible exact rng_yand _ _ | with_reducible exact rng_yor _ _ | with_reducible exact rng_zcmp _ _ | with_reducible exact yand7 _ | with_reducible exact rng_toInt _ | with_reducible exact yarr23 (by omega) | with_reducible exact yarr57 (by omega) | with_reducible exact Or.inl rfl | with_reducible exact Or.inr rfl) (by first | omega | assumption | with_reducible exact rng_ld _ _ _ | with_reducible exact rng_yand _ _ | with_reducible exact rng_yor _ _ | with_reducible exact rng_zcmp _ _ | with_reducible exact yand7 _ | with_reducible exact rng_toInt _ | with_reducible exact yarr23 (by omega) | with_reducible exact yarr57 (by omega) | with_reducible exact Or.inl rfl | with_reducible exact Or.inr rfl) (by first | exact i1.inn | exact i2.s (by omega) (by assumption) | exact i2.no (by assumption)) (by omega)
  refine uX7_pairsNotAll_0 ?_
  exact (go 1000000).1 _ _ _  (by first | omega | assumption | with_reducible exact rng_ld _ _ _ | with_reducible exact rng_yand _ _ | with_reducible exact rng_yor _ _ | with_reducible exact rng_zcmp _ _ | with_reducible exact yand7 _ | with_reducible exact rng_toInt _ | with_reducible exact yarr23 (by omega) | with_reducible exact yarr57 (by omega) | with_reducible exact Or.inl rfl | with_reducible exact Or.inr rfl) (by first | exact PN.z | exact i2.row (by omega)) (by omega)
theorem ite_ci {c d : Prop} {ic : Decidable c} {id : Decidable d} {a b a' b' : Int} (h : c ↔ d) (h1 : a = a') (h2 : b = b') : @ite Int c ic a b = @ite Int d id a' b' := by
  by_cases w : c
  · rw [if_pos w, if_pos (h.mp w), h1]
  · rw [if_neg w, if_neg (fun q => w (h.mpr q)), h2]
/-- what a box adds to what each pair had -/
def SBx (X S S' : Int → Int) (n x y : Int) : Prop := ∀ p q : Int, 0 ≤ p → p < 8 → 0 ≤ q → q < 8 → S' (8 * p + q) = if (p < q ∧ q < n ∧ (p < x ∨ p = x ∧ q < y)) ∨ (q < p ∧ p < n ∧ (q < x ∨ q = x ∧ p < y)) then yor (S (8 * p + q)) (X (8 * p + q)) else if p = q ∧ p < n ∧ (p < x ∨ p = x ∧ 0 < y) then 1 else S (8 * p + q)
section
variable {X S S' S'' : Int → Int} {n x y : Int}
theorem SBx.z : SBx X S S n 0 0 := fun p q p1 p2 q1 q2 => by
  rw [if_neg (by omega), if_neg (by omega)]
theorem SBx.row (h : SBx X S S' n x y) (hy : n ≤ y) (hx : 0 < y) : SBx X S S' n (x + 1) 0 := fun p q p1 p2 q1 q2 => by
  rw [h p q p1 p2 q1 q2]
  exact ite_ci (by omega) rfl (ite_ci (by omega) rfl rfl)
theorem SBx.dg (h : SBx X S S' n x 0) (hx : 0 ≤ x ∧ x < n ∧ n ≤ 8) (e : ∀ z, S'' z = if z = 9 * x then 1 else S' z) : SBx X S S'' n x (x + 1) := fun p q p1 p2 q1 q2 => by
  rw [e]
  by_cases d : p = x ∧ q = x
  · rw [if_pos (by omega), if_neg (by omega), if_pos (by omega)]
  · rw [if_neg (by omega), h p q p1 p2 q1 q2]
    exact ite_ci (by omega) rfl (ite_ci (by omega) rfl rfl)
theorem SBx.ce (h : SBx X S S' n x y) (hx : 0 ≤ x ∧ x < y ∧ y < n ∧ n ≤ 8) (e : ∀ z, S'' z = if z = 8 * y + x then yor (S' (8 * y + x)) (X (8 * y + x)) else if z = 8 * x + y then yor (S' (8 * x + y)) (X (8 * x + y)) else S' z) : SBx X S S'' n x (y + 1) := fun p q p1 p2 q1 q2 => by
  rw [e]
  by_cases d1 : p = y ∧ q = x
  · obtain ⟨rfl, rfl⟩ := d1
    rw [if_pos rfl, h p q p1 p2 q1 q2, if_neg (by omega), if_neg (by omega), if_pos (by omega)]
  · by_cases d2 : p = x ∧ q = y
    · obtain ⟨rfl, rfl⟩ := d2
      rw [if_neg (by omega), if_pos rfl, h p q p1 p2 q1 q2, if_neg (by omega), if_neg (by omega), if_pos (by omega)]
    · rw [if_neg (by omega), if_neg (by omega), h p q p1 p2 q1 q2]
      exact ite_ci (by omega) rfl (ite_ci (by omega) rfl rfl)
end
/-- the product of what is still to be looked at -/
def PB (X : Int → Int) (n i c w : Int) : Prop := w * pd (fun q => X (8 * q.1 + q.2)) 8 (gCs n i c) = pd (fun q => X (8 * q.1 + q.2)) 8 (prs n)
def PBI (X : Int → Int) (n i w : Int) : Prop := w * pd (fun q => X (8 * q.1 + q.2)) 8 (gIs n i) = pd (fun q => X (8 * q.1 + q.2)) 8 (prs n)
theorem PBI.z {X : Int → Int} {n : Int} : PBI X n 0 1 := Int.one_mul _
theorem PBI.inn {X : Int → Int} {n i w : Int} (h : PBI X n i w) (hi : i < n) : PB X n i (i + 1) w := by
  unfold PBI at h
  rw [gIs_s hi] at h
  exact h
theorem PB.row {X : Int → Int} {n i c w : Int} (h : PB X n i c w) (hc : n ≤ c) : PBI X n (i + 1) w := by
  unfold PB at h
  rw [gCs_e hc] at h
  exact h
theorem PB.s {X : Int → Int} {n i c w : Int} (h : PB X n i c w) (hc : c < n) (hx : 0 ≤ X (8 * i + c) ∧ X (8 * i + c) < 256) : PB X n i (c + 1) (w * bc (X (8 * i + c))) := by
  unfold PB at h ⊢
  rw [gCs_s hc] at h
  rw [(om_bc hx).2.2.2, Int.mul_assoc]
  exact h
theorem PBI.end {X : Int → Int} {n i w : Int} (h : PBI X n i w) (hi : n ≤ i) : w = pd (fun q => X (8 * q.1 + q.2)) 8 (prs n) := by
  unfold PBI at h
  rw [gIs_e hi] at h
  rw [← h]
  simp only [pd]
  omega
