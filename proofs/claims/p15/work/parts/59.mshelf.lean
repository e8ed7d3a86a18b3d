/-! MODEL: THE SHELF, THE OTHER CALLS -/
theorem ydr_k : ∀ x : Nat, x < 8 → ∀ m : Nat, m < 9 → m ≠ 0 → yrem (x : Int) (m : Int) = ((x % m : Nat) : Int) ∧ ydiv (x : Int) (m : Int) = ((x / m : Nat) : Int) := by decide +kernel
theorem shx {x m n : Int} (hx : 0 ≤ x ∧ x < m * n) (hm : 1 ≤ m ∧ m ≤ 8) (h8 : m * n ≤ 8) : (0 ≤ yrem x m ∧ yrem x m < m) ∧ (0 ≤ ydiv x m ∧ ydiv x m < n) ∧ x = yrem x m + m * ydiv x m := by
  obtain ⟨a, rfl⟩ := Int.eq_ofNat_of_zero_le hx.1
  obtain ⟨b, rfl⟩ := Int.eq_ofNat_of_zero_le (show 0 ≤ m by omega)
  obtain ⟨e1, e2⟩ := ydr_k a (by omega) b (by omega) (by omega)
  rw [e1, e2]
  have h1 := Nat.mod_lt a (show b > 0 by omega)
  have h2 := Nat.mod_add_div a b
  have h3 : ((a / b : Nat) : Int) < n := by
    rcases Int.lt_or_le ((a / b : Nat) : Int) n with q | q
    · exact q
    · exfalso
      have h4 := Int.mul_le_mul_of_nonneg_left q (show (0 : Int) ≤ b by omega)
      have h5 : ((b * (a / b) : Nat) : Int) = (b : Int) * ((a / b : Nat) : Int) := Int.natCast_mul _ _
      omega
  have h5 : ((b * (a / b) : Nat) : Int) = (b : Int) * ((a / b : Nat) : Int) := Int.natCast_mul _ _
  generalize a / b = q at *
  generalize a % b = r at *
  refine ⟨by omega, ⟨by omega, h3⟩, ?_⟩
  omega
/-- the turns of a shelf put beside x copies -/
def SF (f g : Int → Int) (m x : Int) (t : Int → Int) : Prop := ∀ j, 0 ≤ j → j < x → t j = (if m = 1 then 0 else f (yrem j m)) + m * g (ydiv j m)
theorem SF.s {f g : Int → Int} {m n x v : Int} {M M' : yM} {o : Nat} (h : SF f g m x (ld M o)) (e : M' = put M o x v) (hv : yR v) (ev : v = (if m = 1 then 0 else f (yrem x m)) + m * g (ydiv x m)) : SF f g m (x + 1) (ld M' o) := fun j h1 h2 => by
  subst e
  rw [ld_put hv]
  split
  · next q => rw [q.2]; exact ev
  · next q =>
    refine h j h1 ?_
    have : j ≠ x := fun e => q ⟨rfl, e⟩
    omega
theorem SF.fr {W : Nat → Int → Prop} {M M' : yM} {f g : Int → Int} {m x : Int} {o : Nat} (h : SF f g m x (ld M o)) (fM : fr W M M') (hw : ∀ j, ¬ W o j) : SF f g m x (ld M' o) := fun c h1 h2 => by
  rw [fM.ld (hw _)]
  exact h c h1 h2
theorem SF.one {f g t : Int → Int} {n : Int} (hn : n ≤ 8) (h : SF f g 1 n t) {j : Int} (hj : 0 ≤ j ∧ j < n) : t j = g j := by
  have h1 := shx (x := j) (m := 1) (n := n) (by omega) (by omega) (by omega)
  rw [h j hj.1 hj.2, if_pos rfl, show ydiv j 1 = j by omega]
  omega
theorem SF.two {f g t : Int → Int} {m n : Int} (hm : 1 ≤ m ∧ m ≤ 8) (h8 : m * n ≤ 8) (hf : m = 1 → f 0 = 0) (h : SF f g m (m * n) t) : TW f g m n 0 t := fun c r h1 h2 h3 h4 => by
  have hb := ixb (k := m) (m := n) (x := c) (y := r) ⟨h1, h2⟩ ⟨h3, by omega⟩ h8
  have hs := shx (x := c + m * r) (m := m) (n := n) ⟨hb.2.1, hb.2.2.2⟩ hm h8
  obtain ⟨e1, e2⟩ := ixu hs.1 ⟨h1, h2⟩ hs.2.2.symm
  rw [h _ hb.2.1 hb.2.2.2, e1, e2]
  split
  · next q => rw [show c = 0 by omega, hf q]
  · rfl
/-- a triangle of a shelf put beside copies -/
def SHc (T S : Int → Int) (m w a b u : Int) : Prop := (w = 0 ∨ bt (T (8 * yrem a m + yrem b m)) (yrem u m).toNat = true) ∧ bt (S (8 * ydiv a m + ydiv b m)) (ydiv u m).toNat = true
def SHx (T S : Int → Int) (m w a b n v : Int) : Prop := ∀ u : Nat, bt v u = true ↔ (u : Int) < n ∧ SHc T S m w a b u
theorem SHx.z {T S : Int → Int} {m w a b : Int} : SHx T S m w a b 0 0 := fun u => by
  rw [bt_0]
  constructor
  · intro q; cases q
  · rintro ⟨q, _⟩; omega
theorem SHx.s1 {T S : Int → Int} {m w a b n v : Int} (h : SHx T S m w a b n v) (hn : 0 ≤ n ∧ n < 32) (hc : SHc T S m w a b n) : SHx T S m w a b (n + 1) (yor v (yshl 1 n)) := fun u => by
  rw [bt_yor, Bool.or_eq_true, h u, bt_bit hn, decide_eq_true_eq]
  constructor
  · rintro (⟨q1, q2⟩ | q)
    · exact ⟨by omega, q2⟩
    · rw [show (u : Int) = n by omega]
      exact ⟨by omega, hc⟩
  · rintro ⟨q1, q2⟩
    by_cases e : (u : Int) = n
    · exact Or.inr (by omega)
    · exact Or.inl ⟨by omega, q2⟩
theorem SHx.s0 {T S : Int → Int} {m w a b n v : Int} (h : SHx T S m w a b n v) (hc : ¬ SHc T S m w a b n) : SHx T S m w a b (n + 1) (yor v 0) := fun u => by
  rw [bt_yor, Bool.or_eq_true, h u, bt_0]
  constructor
  · rintro (⟨q1, q2⟩ | q)
    · exact ⟨by omega, q2⟩
    · cases q
  · rintro ⟨q1, q2⟩
    by_cases e : (u : Int) = n
    · rw [e] at q2; exact absurd q2 hc
    · exact Or.inl ⟨by omega, q2⟩
def SHr (T S : Int → Int) (m w n x y : Int) (U : Int → Int) : Prop := ∀ a b : Int, 0 ≤ a → a < n → 0 ≤ b → b < n → (a < x ∨ a = x ∧ b < y) → SHx T S m w a b n (U (8 * a + b))
theorem SHr.s {T S : Int → Int} {M M' : yM} {o : Nat} {m w n x y v : Int} (h : SHr T S m w n x y (ld M o)) (hn : n ≤ 8) (hy : 0 ≤ y ∧ y < n) (e : M' = put M o (8 * x + y) v) (hv : yR v) (hx : SHx T S m w x y n v) : SHr T S m w n x (y + 1) (ld M' o) := fun a b a1 a2 b1 b2 q => by
  rw [e, ld_put hv]
  by_cases c : a = x ∧ b = y
  · rw [if_pos ⟨rfl, by omega⟩, c.1, c.2]
    exact hx
  · rw [if_neg (fun w => c (by omega))]
    exact h a b a1 a2 b1 b2 (by omega)
theorem SHr.up {T S U : Int → Int} {m w n x y x' y' : Int} (h : SHr T S m w n x y U) (hc : ∀ a b : Int, 0 ≤ a → a < n → 0 ≤ b → b < n → (a < x' ∨ a = x' ∧ b < y') → (a < x ∨ a = x ∧ b < y)) : SHr T S m w n x' y' U := fun a b a1 a2 b1 b2 q => h a b a1 a2 b1 b2 (hc a b a1 a2 b1 b2 q)
theorem SHr.cu {T S U U' : Int → Int} {m w n x y : Int} (h : SHr T S m w n x y U) (e : ∀ A B : Int, 0 ≤ A → A < n → 0 ≤ B → B < n → U' (8 * A + B) = U (8 * A + B)) : SHr T S m w n x y U' := fun a b a1 a2 b1 b2 q => by
  rw [e a b a1 a2 b1 b2]
  exact h a b a1 a2 b1 b2 q
theorem shq {k m p s : Int} (hk : 1 ≤ k ∧ k ≤ 8) (hkm : k * m ≤ 8) (hp : 0 ≤ p ∧ p < k) (hs : 0 ≤ s ∧ s < m) : yrem (p + k * s) k = p ∧ ydiv (p + k * s) k = s := by
  have hb := ixb (k := k) (m := m) hp hs hkm
  have h1 := shx (x := p + k * s) (m := k) (n := m) ⟨hb.2.1, hb.2.2.2⟩ hk hkm
  obtain ⟨e1, e2⟩ := ixu h1.1 hp h1.2.2.symm
  exact ⟨e1, e2⟩
theorem SHr.two {T S U : Int → Int} {k m : Int} (hk : 1 ≤ k ∧ k ≤ 8) (hm : 0 ≤ m) (hkm : k * m ≤ 8) (h : SHr T S k 1 (k * m) (k * m) 0 U) : TWO T S k m U := fun p s q t p1 p2 s1 s2 q1 q2 t1 t2 u => by
  have b1 := ixb (k := k) (m := m) (x := p) (y := s) ⟨p1, p2⟩ ⟨s1, s2⟩ hkm
  have b2 := ixb (k := k) (m := m) (x := q) (y := t) ⟨q1, q2⟩ ⟨t1, t2⟩ hkm
  have d1 := shq (m := m) hk hkm ⟨p1, p2⟩ ⟨s1, s2⟩
  have d2 := shq (m := m) hk hkm ⟨q1, q2⟩ ⟨t1, t2⟩
  rw [h (p + k * s) (q + k * t) b1.2.1 b1.2.2.2 b2.2.1 b2.2.2.2 (Or.inl b1.2.2.2) u]
  unfold SHc
  rw [d1.1, d1.2, d2.1, d2.2]
  constructor
  · rintro ⟨w1, w2, w3⟩
    have hs := shx (x := (u : Int)) (m := k) (n := m) ⟨by omega, w1⟩ hk hkm
    exact ⟨yrem u k, ydiv u k, hs.1, hs.2.1, hs.2.2, w2.resolve_left (by omega), w3⟩
  · rintro ⟨c, r, w1, w2, w3, w4, w5⟩
    have b3 := ixb (k := k) (m := m) (x := c) (y := r) w1 w2 hkm
    have d3 := shq (m := m) hk hkm w1 w2
    rw [w3, d3.1, d3.2]
    exact ⟨b3.2.2.2, Or.inr w4, w5⟩
theorem SHr.one {T S U : Int → Int} {n : Int} (hn : 1 ≤ n ∧ n ≤ 8) (h : SHr T S 1 0 n n 0 U) (hS : TBd S n) (hU : ∀ j, yR (U j)) (hS2 : ∀ j, yR (S j)) {A B : Int} (hA : 0 ≤ A ∧ A < n) (hB : 0 ≤ B ∧ B < n) : U (8 * A + B) = S (8 * A + B) := by
  have d : ∀ x : Int, 0 ≤ x → x < n → ydiv x 1 = x := fun x x1 x2 => by
    have := shx (x := x) (m := 1) (n := n) (by omega) (by omega) (by omega)
    omega
  refine bt_ext (hU _) (hS2 _) (fun u hu => ?_)
  rw [Bool.eq_iff_iff, h A B hA.1 hA.2 hB.1 hB.2 (Or.inl hA.2) u]
  unfold SHc
  rw [d A hA.1 hA.2, d B hB.1 hB.2]
  constructor
  · rintro ⟨w1, _, w3⟩
    rw [d u (by omega) w1, Int.toNat_natCast] at w3
    exact w3
  · intro w
    have := bt_al (by omega) (hS A B hA.1 hA.2 hB.1 hB.2) w
    exact ⟨by omega, Or.inl rfl, by rw [d u (by omega) (by omega), Int.toNat_natCast]; exact w⟩
theorem c12_shelf {d : Nat} {Q : Int → yM → Prop} {M : yM} {x1 : Int}  (hmk : 1 ≤ ld M 92 2 ∧ ld M 92 2 ≤ 8) (hm8 : T8 M 93) (hmI : ∀ j, 0 ≤ j → j < ld M 92 2 → (0 ≤ ld M 93 j ∧ ld M 93 j < ld M 92 2) ∧ ld M 93 (ld M 93 j) = j) (h5 : 0 ≤ ld M 92 5 ∧ ld M 92 5 ≤ 8) (hm95 : ∀ j, 0 ≤ j → j < ld M 92 5 → (0 ≤ ld M 95 j ∧ ld M 95 j < ld M 92 5) ∧ ld M 95 (ld M 95 j) = j) (r1 : yR x1) (hTBm : TBd (ld M 94) (ld M 92 2)) (hTBs : TBd (ld M 96) (ld M 92 5)) (k : ∀ (v : Int) (M' : yM), fr (fun o j => (o = 92 ∧ (j = 0 ∨ j = 2)) ∨ o = 93 ∨ o = 94 ∨ o = 97 ∨ o = 98 ∨ (o = 100 ∧ 0 ≤ j ∧ j < 64) ∨ o = 107 ∨ o = 108) M M' → (v = -1 ∧ ¬ (x1 = 0 ∨ x1 = 1) ∧ T0 M M' ∨ v = -2 ∧ (x1 = 0 ∨ x1 = 1) ∧ ld M 92 5 = 0 ∧ T0 M M' ∨ v = -3 ∧ x1 = 1 ∧ ld M 92 5 ≠ 0 ∧ ld M 92 2 * ld M 92 5 > 8 ∧ T0 M M' ∨ v = ld M' 92 2 ∧ ld M 92 5 ≠ 0 ∧ (x1 = 0 ∧ ld M' 92 2 = ld M 92 5 ∧ (∀ j, 0 ≤ j → j < ld M 92 5 → ld M' 93 j = ld M 95 j) ∨ x1 = 1 ∧ ld M 92 2 * ld M 92 5 ≤ 8 ∧ ld M' 92 2 = ld M 92 2 * ld M 92 5 ∧ TW (ld M 93) (ld M 95) (ld M 92 2) (ld M 92 5) 0 (ld M' 93)) ∧ T8 M' 93 ∧ NFm M' ∧ (∀ i, 0 ≤ i → i < 4 → WFt M' i) ∧ (x1 = 0 → ∀ A B : Int, 0 ≤ A → A < ld M 92 5 → 0 ≤ B → B < ld M 92 5 → ld M' 94 (8 * A + B) = ld M 96 (8 * A + B)) ∧ (x1 = 1 → TWO (ld M 94) (ld M 96) (ld M 92 2) (ld M 92 5) (ld M' 94))) → Q v M') : XCi (d + 3) 142 [.inr (.inr 92), .inl x1] M Q := by
  refine eX12_shelf ?_
  have fM : fr (fun o j => (o = 92 ∧ (j = 0 ∨ j = 2)) ∨ o = 93 ∨ o = 94 ∨ o = 97 ∨ o = 98 ∨ (o = 100 ∧ 0 ≤ j ∧ j < 64) ∨ o = 107 ∨ o = 108) M M := fr.rf
  have ha8 := al_le hmk
  have s58 : al (ld M 92 5) ≤ 255 := by
    obtain ⟨n, e⟩ := Int.eq_ofNat_of_zero_le h5.1
    rw [e]
    exact (al_n n (by omega)).1
  have mb := mulb (a := ld M 92 2) (b := ld M 92 5) (by omega) (by omega)
  have go : ∀ N : Nat, (∀ (x2 : Int) (x3 : Int) (x4 : Int) (wx5 : Option yV) (wx6 : Option yV) (wx7 : Option yV) (wx8 : Option yV) (M9 : yM), fr (fun o j => (o = 92 ∧ (j = 0 ∨ j = 2)) ∨ o = 93 ∨ o = 94 ∨ o = 97 ∨ o = 98 ∨ (o = 100 ∧ 0 ≤ j ∧ j < 64) ∨ o = 107 ∨ o = 108) M M9 → ((1 ≤ x2 ∧ x2 ≤ 8) ∧ (x1 = 0 ∧ x2 = 1 ∨ x1 = 1 ∧ x2 = ld M 92 2) ∧ ld M 92 5 ≠ 0) → (x3 = x2 * ld M 92 5 ∧ x3 ≤ 8) → (0 ≤ x4 ∧ x4 ≤ x3) → (fr (fun o j => (o = 92 ∧ j = 0) ∨ o = 97 ∨ o = 98) M M9) → (SF (ld M 93) (ld M 95) x2 x4 (ld M9 97)) → (SHr (ld M 94) (ld M 96) x2 x1 x3 x4 0 (ld M9 98)) → ((8 - x4) * 10000 + 5000 < (N : Int)) → XW kX12_shelf (d + 3) (some .int) (wQi Q) 63 [some (.inr (.inr 92)), some (.inl x1), some (.inl x2), some (.inl x3), some (.inl x4), wx5, wx6, wx7, wx8] [] M9) ∧ (∀ (x2 : Int) (x3 : Int) (x4 : Int) (x5 : Int) (wx6 : Option yV) (wx7 : Option yV) (wx8 : Option yV) (M9 : yM), fr (fun o j => (o = 92 ∧ (j = 0 ∨ j = 2)) ∨ o = 93 ∨ o = 94 ∨ o = 97 ∨ o = 98 ∨ (o = 100 ∧ 0 ≤ j ∧ j < 64) ∨ o = 107 ∨ o = 108) M M9 → ((1 ≤ x2 ∧ x2 ≤ 8) ∧ (x1 = 0 ∧ x2 = 1 ∨ x1 = 1 ∧ x2 = ld M 92 2) ∧ ld M 92 5 ≠ 0) → (x3 = x2 * ld M 92 5 ∧ x3 ≤ 8) → (0 ≤ x4 ∧ x4 < x3) → (fr (fun o j => (o = 92 ∧ j = 0) ∨ o = 97 ∨ o = 98) M M9) → (SF (ld M 93) (ld M 95) x2 (x4 + 1) (ld M9 97)) → (0 ≤ x5 ∧ x5 ≤ x3) → (SHr (ld M 94) (ld M 96) x2 x1 x3 x4 x5 (ld M9 98)) → ((8 - x4) * 10000 + (8 - x5) * 100 + 50 < (N : Int)) → XW kX12_shelf (d + 3) (some .int) (wQi Q) 109 [some (.inr (.inr 92)), some (.inl x1), some (.inl x2), some (.inl x3), some (.inl x4), some (.inl x5), wx6, wx7, wx8] [] M9) ∧ (∀ (x2 : Int) (x3 : Int) (x4 : Int) (x5 : Int) (x6 : Int) (x7 : Int) (wx8 : Option yV) (M9 : yM), fr (fun o j => (o = 92 ∧ (j = 0 ∨ j = 2)) ∨ o = 93 ∨ o = 94 ∨ o = 97 ∨ o = 98 ∨ (o = 100 ∧ 0 ≤ j ∧ j < 64) ∨ o = 107 ∨ o = 108) M M9 → ((1 ≤ x2 ∧ x2 ≤ 8) ∧ (x1 = 0 ∧ x2 = 1 ∨ x1 = 1 ∧ x2 = ld M 92 2) ∧ ld M 92 5 ≠ 0) → (x3 = x2 * ld M 92 5 ∧ x3 ≤ 8) → (0 ≤ x4 ∧ x4 < x3) → (fr (fun o j => (o = 92 ∧ j = 0) ∨ o = 97 ∨ o = 98) M M9) → (SF (ld M 93) (ld M 95) x2 (x4 + 1) (ld M9 97)) → (0 ≤ x5 ∧ x5 < x3) → (0 ≤ x7 ∧ x7 ≤ x3) → (SHr (ld M 94) (ld M 96) x2 x1 x3 x4 x5 (ld M9 98)) → (SHx (ld M 94) (ld M 96) x2 x1 x4 x5 x7 x6) → (yR x6) → ((8 - x4) * 10000 + (8 - x5) * 100 + 8 - x7 < (N : Int)) → XW kX12_shelf (d + 3) (some .int) (wQi Q) 121 [some (.inr (.inr 92)), some (.inl x1), some (.inl x2), some (.inl x3), some (.inl x4), some (.inl x5), some (.inl x6), some (.inl x7), wx8] [] M9) := by
    intro N
    induction N with
    | zero => refine ⟨?_, ?_, ?_⟩ <;> (intros; exfalso; omega)
    | succ N ih =>
      obtain ⟨ih0, ih1, ih2⟩ := ih
      refine ⟨?_, ?_, ?_⟩
      · skip
        clear fM
        intro x2 x3 x4 wx5 wx6 wx7 wx8 M1 fM i0 i1 i2 i3 i4 i5 hm
        obtain ⟨j1, j2, j3⟩ := i0
        obtain ⟨j4, j5⟩ := i1
        refine uX12_shelf_63 (by first | omega | assumption | with_reducible exact rng_ld _ _ _ | with_reducible exact rng_yand _ _ | with_reducible exact rng_yor _ _ | with_reducible exact rng_zcmp _ _ | with_reducible exact yand7 _ | with_reducible exact rng_toInt _ | with_reducible exact yarr23 (by omega) | with_reducible exact yarr57 (by omega) | with_reducible exact Or.inl rfl | with_reducible exact Or.inr rfl) (by first | omega | assumption | with_reducible exact rng_ld _ _ _ | with_reducible exact rng_yand _ _ | with_reducible exact rng_yor _ _ | with_reducible exact rng_zcmp _ _ | with_reducible exact yand7 _ | with_reducible exact rng_toInt _ | with_reducible exact yarr23 (by omega) | with_reducible exact yarr57 (by omega) | with_reducible exact Or.inl rfl | with_reducible exact Or.inr rfl) (fun hc => ?_) (fun hc => ?_)
        · skip
          have hx4 : x4 = x3 := by omega
          rw [hx4, j4] at i4
          have mb3 := Int.mul_le_mul_of_nonneg_right (show 1 ≤ x2 by omega) (show 0 ≤ ld M 92 5 by omega)
          refine uX12_shelf_236 ?_
          refine XC.deep (c12_becomes  (d := 0) (by first | omega | assumption | with_reducible exact rng_ld _ _ _ | with_reducible exact rng_yand _ _ | with_reducible exact rng_yor _ _ | with_reducible exact rng_zcmp _ _ | with_reducible exact yand7 _ | with_reducible exact rng_toInt _ | with_reducible exact yarr23 (by omega) | with_reducible exact yarr57 (by omega) | with_reducible exact Or.inl rfl | with_reducible exact Or.inr rfl) (fun v2 M2 fM2 p2a p2b p2c p2d p2e p2f => ?_)) (by omega)
          replace fM := fM.tr fM2 (by intro o j hw; first | omega | exact hw | (dsimp only [wSub, wRun, wNar, wFil, wCan, wLst, wCar, wDr, wFl, wMq, wRd, wRx, wCr, wTab, wTr, wNew, wKi, wKn, wTn, wOb, wPt, wTl, wOq] at hw; dsimp only [wSub, wRun, wNar, wFil, wCan, wLst, wCar, wDr, wFl, wMq, wRd, wRx, wCr, wTab, wTr, wNew, wKi, wKn, wTn, wOb, wPt, wTl, wOq]; omega) | (dsimp only [wSub, wRun, wNar, wFil, wCan, wLst, wCar, wDr, wFl, wMq, wRd, wRx, wCr, wTab, wTr, wNew, wKi, wKn, wTn, wOb, wPt, wTl, wOq]; omega) | (dsimp only [wSub, wRun, wNar, wFil, wCan, wLst, wCar, wDr, wFl, wMq, wRd, wRx, wCr, wTab, wTr, wNew, wKi, wKn, wTn, wOb, wPt, wTl, wOq] at hw; omega) | (simp [wSub, wRun, wNar, wFil, wCan, wLst, wCar, wDr, wFl, wMq, wRd, wRx, wCr, wTab, wTr, wNew, wKi, wKn, wTn, wOb, wPt, wTl, wOq] at hw; simp [wSub, wRun, wNar, wFil, wCan, wLst, wCar, wDr, wFl, wMq, wRd, wRx, wCr, wTab, wTr, wNew, wKi, wKn, wTn, wOb, wPt, wTl, wOq]; omega))
          have y0 : ld M2 92 2 = x2 * ld M 92 5 := by rw [p2b, j4]
          have y1 : x1 = 0 ∧ ld M2 92 2 = ld M 92 5 ∧ (∀ j, 0 ≤ j → j < ld M 92 5 → ld M2 93 j = ld M 95 j) ∨ x1 = 1 ∧ ld M 92 2 * ld M 92 5 ≤ 8 ∧ ld M2 92 2 = ld M 92 2 * ld M 92 5 ∧ TW (ld M 93) (ld M 95) (ld M 92 2) (ld M 92 5) 0 (ld M2 93) := by
            rcases j2 with q | q
            · rw [q.2, Int.one_mul] at i4
              refine Or.inl ⟨q.1, by rw [y0, q.2, Int.one_mul], fun j h1 h2 => ?_⟩
              rw [p2c j h1 (by omega), if_pos (by rw [j4, q.2, Int.one_mul]; exact h2)]
              exact i4.one (by omega) ⟨h1, h2⟩
            · rw [q.2] at i4
              have i5 := SF.two hmk (by rw [q.2] at j4; omega) (fun h => by have := hmI 0 (by omega) (by omega); omega) i4
              refine Or.inr ⟨q.1, by rw [q.2] at j4; omega, by rw [y0, q.2], fun c r h1 h2 h3 h4 => ?_⟩
              have hb := ixb (k := ld M 92 2) (m := ld M 92 5) (x := c) (y := r) ⟨h1, h2⟩ ⟨h3, by omega⟩ (by rw [q.2] at j4; omega)
              rw [p2c _ (by omega) (by omega), if_pos (by rw [j4, q.2]; omega)]
              exact i5 c r h1 h2 h3 h4
          have y3 : T8 M2 93 := fun j h1 h2 => by
            rw [p2c j h1 h2]
            split
            · next q =>
              have sj := shx (x := j) (m := x2) (n := ld M 92 5) (by omega) j1 (by omega)
              rw [i4 j h1 (by omega)]
              have v95 := (hm95 (ydiv j x2) (by omega) (by omega)).1
              have mm := Int.mul_le_mul_of_nonneg_left (show ld M 95 (ydiv j x2) + 1 ≤ ld M 92 5 by omega) (show 0 ≤ x2 by omega)
              rw [Int.mul_add, Int.mul_one] at mm
              have mn := Int.mul_nonneg (show 0 ≤ x2 by omega) v95.1
              split
              · omega
              · have v93 := (hmI (yrem j x2) (by omega) (by omega)).1
                omega
            · omega
          have y4 := p2d
          have y5 := p2e
          have q6 : SHr (ld M 94) (ld M 96) x2 x1 x3 x3 0 (ld M2 94) := SHr.cu (by rw [hx4] at i5; exact i5) (fun A B a1 a2 b1 b2 => p2f _ (by omega) (by omega))
          have y6 : (x1 = 0 → ∀ A B : Int, 0 ≤ A → A < ld M 92 5 → 0 ≤ B → B < ld M 92 5 → ld M2 94 (8 * A + B) = ld M 96 (8 * A + B)) ∧ (x1 = 1 → TWO (ld M 94) (ld M 96) (ld M 92 2) (ld M 92 5) (ld M2 94)) := ⟨fun e A B a1 a2 b1 b2 => by
            have e2 : x2 = 1 := by omega
            rw [j4, e2, e, Int.one_mul] at q6
            exact q6.one (by omega) hTBs (fun j => rng_ld _ _ _) (fun j => rng_ld _ _ _) ⟨a1, a2⟩ ⟨b1, b2⟩, fun e => by
            have e2 : x2 = ld M 92 2 := by omega
            rw [j4, e2, e] at q6
            exact q6.two hmk (by omega) (by rw [j4, e2] at j5; exact j5)⟩
          refine uX12_shelf_241 ?_
          exact k _ _ fM (Or.inr (Or.inr (Or.inr ⟨by omega, j3, y1, y3, y4, y5, y6⟩)))
        · skip
          have sx4 := shx (x := x4) (m := x2) (n := ld M 92 5) (by omega) j1 (by omega)
          have w5 : ld M1 92 5 = ld M 92 5 := i3.ld (by omega)
          refine uX12_shelf_69 (by first | omega | assumption | with_reducible exact rng_ld _ _ _ | with_reducible exact rng_yand _ _ | with_reducible exact rng_yor _ _ | with_reducible exact rng_zcmp _ _ | with_reducible exact yand7 _ | with_reducible exact rng_toInt _ | with_reducible exact yarr23 (by omega) | with_reducible exact yarr57 (by omega) | with_reducible exact Or.inl rfl | with_reducible exact Or.inr rfl) (fun hc => ?_) (fun hc => ?_)
          · skip
            have w93 : ld M1 93 (yrem x4 x2) = ld M 93 (yrem x4 x2) := i3.ld (by omega)
            have v93 := hm8 (yrem x4 x2) (by omega) (by omega)
            refine uX12_shelf_84 (by first | omega | assumption | with_reducible exact rng_ld _ _ _ | with_reducible exact rng_yand _ _ | with_reducible exact rng_yor _ _ | with_reducible exact rng_zcmp _ _ | with_reducible exact yand7 _ | with_reducible exact rng_toInt _ | with_reducible exact yarr23 (by omega) | with_reducible exact yarr57 (by omega) | with_reducible exact Or.inl rfl | with_reducible exact Or.inr rfl) (by first | omega | assumption | with_reducible exact rng_ld _ _ _ | with_reducible exact rng_yand _ _ | with_reducible exact rng_yor _ _ | with_reducible exact rng_zcmp _ _ | with_reducible exact yand7 _ | with_reducible exact rng_toInt _ | with_reducible exact yarr23 (by omega) | with_reducible exact yarr57 (by omega) | with_reducible exact Or.inl rfl | with_reducible exact Or.inr rfl) (by first | omega | assumption | with_reducible exact rng_ld _ _ _ | with_reducible exact rng_yand _ _ | with_reducible exact rng_yor _ _ | with_reducible exact rng_zcmp _ _ | with_reducible exact yand7 _ | with_reducible exact rng_toInt _ | with_reducible exact yarr23 (by omega) | with_reducible exact yarr57 (by omega) | with_reducible exact Or.inl rfl | with_reducible exact Or.inr rfl) ?_
            have w95 : ld M1 95 (ydiv x4 x2) = ld M 95 (ydiv x4 x2) := i3.ld (by omega)
            have v95 := hm95 (ydiv x4 x2) (by omega) (by omega)
            have mb95 := mulb (a := x2) (b := ld M 95 (ydiv x4 x2)) (by omega) (by omega)
            refine uX12_shelf_93 (by first | omega | assumption | with_reducible exact rng_ld _ _ _ | with_reducible exact rng_yand _ _ | with_reducible exact rng_yor _ _ | with_reducible exact rng_zcmp _ _ | with_reducible exact yand7 _ | with_reducible exact rng_toInt _ | with_reducible exact yarr23 (by omega) | with_reducible exact yarr57 (by omega) | with_reducible exact Or.inl rfl | with_reducible exact Or.inr rfl) (by first | omega | assumption | with_reducible exact rng_ld _ _ _ | with_reducible exact rng_yand _ _ | with_reducible exact rng_yor _ _ | with_reducible exact rng_zcmp _ _ | with_reducible exact yand7 _ | with_reducible exact rng_toInt _ | with_reducible exact yarr23 (by omega) | with_reducible exact yarr57 (by omega) | with_reducible exact Or.inl rfl | with_reducible exact Or.inr rfl) (by first | omega | assumption | with_reducible exact rng_ld _ _ _ | with_reducible exact rng_yand _ _ | with_reducible exact rng_yor _ _ | with_reducible exact rng_zcmp _ _ | with_reducible exact yand7 _ | with_reducible exact rng_toInt _ | with_reducible exact yarr23 (by omega) | with_reducible exact yarr57 (by omega) | with_reducible exact Or.inl rfl | with_reducible exact Or.inr rfl) (by first | omega | assumption | with_reducible exact rng_ld _ _ _ | with_reducible exact rng_yand _ _ | with_reducible exact rng_yor _ _ | with_reducible exact rng_zcmp _ _ | with_reducible exact yand7 _ | with_reducible exact rng_toInt _ | with_reducible exact yarr23 (by omega) | with_reducible exact yarr57 (by omega) | with_reducible exact Or.inl rfl | with_reducible exact Or.inr rfl) ?_
            intro M3 hM3
            replace fM := fr.put fM hM3 (by first | omega | (dsimp only [wSub, wRun, wNar, wFil, wCan, wLst, wCar, wDr, wFl, wMq, wRd, wRx, wCr, wTab, wTr, wNew, wKi, wKn, wTn, wOb, wPt, wTl, wOq]; done) | (dsimp only [wSub, wRun, wNar, wFil, wCan, wLst, wCar, wDr, wFl, wMq, wRd, wRx, wCr, wTab, wTr, wNew, wKi, wKn, wTn, wOb, wPt, wTl, wOq]; omega) | (simp [wSub, wRun, wNar, wFil, wCan, wLst, wCar, wDr, wFl, wMq, wRd, wRx, wCr, wTab, wTr, wNew, wKi, wKn, wTn, wOb, wPt, wTl, wOq]; done) | (simp [wSub, wRun, wNar, wFil, wCan, wLst, wCar, wDr, wFl, wMq, wRd, wRx, wCr, wTab, wTr, wNew, wKi, wKn, wTn, wOb, wPt, wTl, wOq]; omega))
            have g93 : SHr (ld M 94) (ld M 96) x2 x1 x3 x4 0 (ld M3 98) := by
              rw [show ld M3 98 = ld M1 98 from funext fun j => by rw [hM3, ld_putne (Or.inl (by omega))]]
              exact i5
            have f93 := i3.put hM3 (by omega)
            have t93 := SF.s (n := 0) i4 hM3 (by first | (rw [w93, w95]; omega) | (rw [w95]; omega)) (by first | (rw [if_pos (by omega), w95]) | (rw [if_neg (by omega), w93, w95]))
            refine uX12_shelf_106 ?_
            exact ih1 _ _ _ _ _ _ _ M3 fM ⟨j1, j2, j3⟩ ⟨j4, j5⟩ (by first | omega | assumption | with_reducible exact rng_ld _ _ _ | with_reducible exact rng_yand _ _ | with_reducible exact rng_yor _ _ | with_reducible exact rng_zcmp _ _ | with_reducible exact yand7 _ | with_reducible exact rng_toInt _ | with_reducible exact yarr23 (by omega) | with_reducible exact yarr57 (by omega) | with_reducible exact Or.inl rfl | with_reducible exact Or.inr rfl) (by first | exact f93 | exact f209 | exact i3) (by first | exact t93 | exact t209 | exact i4) (by first | omega | assumption | with_reducible exact rng_ld _ _ _ | with_reducible exact rng_yand _ _ | with_reducible exact rng_yor _ _ | with_reducible exact rng_zcmp _ _ | with_reducible exact yand7 _ | with_reducible exact rng_toInt _ | with_reducible exact yarr23 (by omega) | with_reducible exact yarr57 (by omega) | with_reducible exact Or.inl rfl | with_reducible exact Or.inr rfl) (by first | exact g93 | exact g209) (by omega)
          · skip
            refine uX12_shelf_80 ?_
            have w95 : ld M1 95 (ydiv x4 x2) = ld M 95 (ydiv x4 x2) := i3.ld (by omega)
            have v95 := hm95 (ydiv x4 x2) (by omega) (by omega)
            have mb95 := mulb (a := x2) (b := ld M 95 (ydiv x4 x2)) (by omega) (by omega)
            refine uX12_shelf_93 (by first | omega | assumption | with_reducible exact rng_ld _ _ _ | with_reducible exact rng_yand _ _ | with_reducible exact rng_yor _ _ | with_reducible exact rng_zcmp _ _ | with_reducible exact yand7 _ | with_reducible exact rng_toInt _ | with_reducible exact yarr23 (by omega) | with_reducible exact yarr57 (by omega) | with_reducible exact Or.inl rfl | with_reducible exact Or.inr rfl) (by first | omega | assumption | with_reducible exact rng_ld _ _ _ | with_reducible exact rng_yand _ _ | with_reducible exact rng_yor _ _ | with_reducible exact rng_zcmp _ _ | with_reducible exact yand7 _ | with_reducible exact rng_toInt _ | with_reducible exact yarr23 (by omega) | with_reducible exact yarr57 (by omega) | with_reducible exact Or.inl rfl | with_reducible exact Or.inr rfl) (by first | omega | assumption | with_reducible exact rng_ld _ _ _ | with_reducible exact rng_yand _ _ | with_reducible exact rng_yor _ _ | with_reducible exact rng_zcmp _ _ | with_reducible exact yand7 _ | with_reducible exact rng_toInt _ | with_reducible exact yarr23 (by omega) | with_reducible exact yarr57 (by omega) | with_reducible exact Or.inl rfl | with_reducible exact Or.inr rfl) (by first | omega | assumption | with_reducible exact rng_ld _ _ _ | with_reducible exact rng_yand _ _ | with_reducible exact rng_yor _ _ | with_reducible exact rng_zcmp _ _ | with_reducible exact yand7 _ | with_reducible exact rng_toInt _ | with_reducible exact yarr23 (by omega) | with_reducible exact yarr57 (by omega) | with_reducible exact Or.inl rfl | with_reducible exact Or.inr rfl) ?_
            intro M4 hM4
            replace fM := fr.put fM hM4 (by first | omega | (dsimp only [wSub, wRun, wNar, wFil, wCan, wLst, wCar, wDr, wFl, wMq, wRd, wRx, wCr, wTab, wTr, wNew, wKi, wKn, wTn, wOb, wPt, wTl, wOq]; done) | (dsimp only [wSub, wRun, wNar, wFil, wCan, wLst, wCar, wDr, wFl, wMq, wRd, wRx, wCr, wTab, wTr, wNew, wKi, wKn, wTn, wOb, wPt, wTl, wOq]; omega) | (simp [wSub, wRun, wNar, wFil, wCan, wLst, wCar, wDr, wFl, wMq, wRd, wRx, wCr, wTab, wTr, wNew, wKi, wKn, wTn, wOb, wPt, wTl, wOq]; done) | (simp [wSub, wRun, wNar, wFil, wCan, wLst, wCar, wDr, wFl, wMq, wRd, wRx, wCr, wTab, wTr, wNew, wKi, wKn, wTn, wOb, wPt, wTl, wOq]; omega))
            have g93 : SHr (ld M 94) (ld M 96) x2 x1 x3 x4 0 (ld M4 98) := by
              rw [show ld M4 98 = ld M1 98 from funext fun j => by rw [hM4, ld_putne (Or.inl (by omega))]]
              exact i5
            have f93 := i3.put hM4 (by omega)
            have t93 := SF.s (n := 0) i4 hM4 (by first | (rw [w93, w95]; omega) | (rw [w95]; omega)) (by first | (rw [if_pos (by omega), w95]) | (rw [if_neg (by omega), w93, w95]))
            refine uX12_shelf_106 ?_
            exact ih1 _ _ _ _ _ _ _ M4 fM ⟨j1, j2, j3⟩ ⟨j4, j5⟩ (by first | omega | assumption | with_reducible exact rng_ld _ _ _ | with_reducible exact rng_yand _ _ | with_reducible exact rng_yor _ _ | with_reducible exact rng_zcmp _ _ | with_reducible exact yand7 _ | with_reducible exact rng_toInt _ | with_reducible exact yarr23 (by omega) | with_reducible exact yarr57 (by omega) | with_reducible exact Or.inl rfl | with_reducible exact Or.inr rfl) (by first | exact f93 | exact f209 | exact i3) (by first | exact t93 | exact t209 | exact i4) (by first | omega | assumption | with_reducible exact rng_ld _ _ _ | with_reducible exact rng_yand _ _ | with_reducible exact rng_yor _ _ | with_reducible exact rng_zcmp _ _ | with_reducible exact yand7 _ | with_reducible exact rng_toInt _ | with_reducible exact yarr23 (by omega) | with_reducible exact yarr57 (by omega) | with_reducible exact Or.inl rfl | with_reducible exact Or.inr rfl) (by first | exact g93 | exact g209) (by omega)
      · skip
        clear fM
        intro x2 x3 x4 x5 wx6 wx7 wx8 M5 fM i0 i1 i2 i3 i4 i5 i6 hm
        obtain ⟨j1, j2, j3⟩ := i0
        obtain ⟨j4, j5⟩ := i1
        refine uX12_shelf_109 (by first | omega | assumption | with_reducible exact rng_ld _ _ _ | with_reducible exact rng_yand _ _ | with_reducible exact rng_yor _ _ | with_reducible exact rng_zcmp _ _ | with_reducible exact yand7 _ | with_reducible exact rng_toInt _ | with_reducible exact yarr23 (by omega) | with_reducible exact yarr57 (by omega) | with_reducible exact Or.inl rfl | with_reducible exact Or.inr rfl) (by first | omega | assumption | with_reducible exact rng_ld _ _ _ | with_reducible exact rng_yand _ _ | with_reducible exact rng_yor _ _ | with_reducible exact rng_zcmp _ _ | with_reducible exact yand7 _ | with_reducible exact rng_toInt _ | with_reducible exact yarr23 (by omega) | with_reducible exact yarr57 (by omega) | with_reducible exact Or.inl rfl | with_reducible exact Or.inr rfl) (fun hc => ?_) (fun hc => ?_)
        · skip
          refine uX12_shelf_230 ?_
          exact ih0 _ _ _ _ _ _ _ M5 fM (by first | exact ⟨j1, j2, j3⟩ | omega) (by first | exact ⟨j4, j5⟩ | omega | exact ⟨by rw [z5], by omega⟩) (by first | omega | (rw [z2, z5]; omega)) (by first | exact i3 | exact z0.up (fun o j hw => Or.inl hw)) (by first | exact i4 | exact (fun c h1 h2 => absurd h2 (by omega))) (by first | exact i6.up (fun a b a1 a2 b1 b2 q => by omega) | exact (fun a b a1 a2 b1 b2 q => absurd q (by omega))) (by omega)
        · skip
          refine uX12_shelf_115 ?_
          exact ih2 _ _ _ _ _ _ _ M5 fM ⟨j1, j2, j3⟩ ⟨j4, j5⟩ (by first | omega | assumption | with_reducible exact rng_ld _ _ _ | with_reducible exact rng_yand _ _ | with_reducible exact rng_yor _ _ | with_reducible exact rng_zcmp _ _ | with_reducible exact yand7 _ | with_reducible exact rng_toInt _ | with_reducible exact yarr23 (by omega) | with_reducible exact yarr57 (by omega) | with_reducible exact Or.inl rfl | with_reducible exact Or.inr rfl) i3 i4 (by first | omega | assumption | with_reducible exact rng_ld _ _ _ | with_reducible exact rng_yand _ _ | with_reducible exact rng_yor _ _ | with_reducible exact rng_zcmp _ _ | with_reducible exact yand7 _ | with_reducible exact rng_toInt _ | with_reducible exact yarr23 (by omega) | with_reducible exact yarr57 (by omega) | with_reducible exact Or.inl rfl | with_reducible exact Or.inr rfl) (by first | omega | assumption | with_reducible exact rng_ld _ _ _ | with_reducible exact rng_yand _ _ | with_reducible exact rng_yor _ _ | with_reducible exact rng_zcmp _ _ | with_reducible exact yand7 _ | with_reducible exact rng_toInt _ | with_reducible exact yarr23 (by omega) | with_reducible exact yarr57 (by omega) | with_reducible exact Or.inl rfl | with_reducible exact Or.inr rfl) (by first | exact i6 | exact i7) (by first | exact SHx.z | exact i8.s1 (by omega) ⟨(by first | exact Or.inl (by omega) | exact Or.inr ((ybitZ (by omega) (by omega)).mp (by omega))), (ybitZ (by omega) (by omega)).mp (by omega)⟩ | exact i8.s0 (fun q => absurd ((ybitZ (by omega) (by omega)).mpr q.2) (by omega)) | exact i8.s0 (fun q => q.1.elim (fun w => by omega) (fun w => absurd ((ybitZ (by omega) (by omega)).mpr w) (by omega))) | (exfalso; omega)) (by first | exact rng_yor _ _ | (show yR 0; decide)) (by omega)
      · skip
        clear fM
        intro x2 x3 x4 x5 x6 x7 wx8 M6 fM i0 i1 i2 i3 i4 i5 i6 i7 i8 i9 hm
        obtain ⟨j1, j2, j3⟩ := i0
        obtain ⟨j4, j5⟩ := i1
        refine uX12_shelf_121 (by first | omega | assumption | with_reducible exact rng_ld _ _ _ | with_reducible exact rng_yand _ _ | with_reducible exact rng_yor _ _ | with_reducible exact rng_zcmp _ _ | with_reducible exact yand7 _ | with_reducible exact rng_toInt _ | with_reducible exact yarr23 (by omega) | with_reducible exact yarr57 (by omega) | with_reducible exact Or.inl rfl | with_reducible exact Or.inr rfl) (by first | omega | assumption | with_reducible exact rng_ld _ _ _ | with_reducible exact rng_yand _ _ | with_reducible exact rng_yor _ _ | with_reducible exact rng_zcmp _ _ | with_reducible exact yand7 _ | with_reducible exact rng_toInt _ | with_reducible exact yarr23 (by omega) | with_reducible exact yarr57 (by omega) | with_reducible exact Or.inl rfl | with_reducible exact Or.inr rfl) (fun hc => ?_) (fun hc => ?_)
        · skip
          refine uX12_shelf_209 (by first | omega | assumption | with_reducible exact rng_ld _ _ _ | with_reducible exact rng_yand _ _ | with_reducible exact rng_yor _ _ | with_reducible exact rng_zcmp _ _ | with_reducible exact yand7 _ | with_reducible exact rng_toInt _ | with_reducible exact yarr23 (by omega) | with_reducible exact yarr57 (by omega) | with_reducible exact Or.inl rfl | with_reducible exact Or.inr rfl) ?_
          intro M7 hM7
          replace fM := fr.put fM hM7 (by first | omega | (dsimp only [wSub, wRun, wNar, wFil, wCan, wLst, wCar, wDr, wFl, wMq, wRd, wRx, wCr, wTab, wTr, wNew, wKi, wKn, wTn, wOb, wPt, wTl, wOq]; done) | (dsimp only [wSub, wRun, wNar, wFil, wCan, wLst, wCar, wDr, wFl, wMq, wRd, wRx, wCr, wTab, wTr, wNew, wKi, wKn, wTn, wOb, wPt, wTl, wOq]; omega) | (simp [wSub, wRun, wNar, wFil, wCan, wLst, wCar, wDr, wFl, wMq, wRd, wRx, wCr, wTab, wTr, wNew, wKi, wKn, wTn, wOb, wPt, wTl, wOq]; done) | (simp [wSub, wRun, wNar, wFil, wCan, wLst, wCar, wDr, wFl, wMq, wRd, wRx, wCr, wTab, wTr, wNew, wKi, wKn, wTn, wOb, wPt, wTl, wOq]; omega))
          have g209 : SHr (ld M 94) (ld M 96) x2 x1 x3 x4 (x5 + 1) (ld M7 98) := i7.s (by omega) (by omega) hM7 i9 (by rw [show x7 = x3 by omega] at i8; exact i8)
          have f209 := i3.put hM7 (by omega)
          have t209 := i4.fr (fr.put (W := fun o _ => o = 98) fr.rf hM7 rfl) (fun _ => by omega)
          refine uX12_shelf_224 ?_
          exact ih1 _ _ _ _ _ _ _ M7 fM ⟨j1, j2, j3⟩ ⟨j4, j5⟩ (by first | omega | assumption | with_reducible exact rng_ld _ _ _ | with_reducible exact rng_yand _ _ | with_reducible exact rng_yor _ _ | with_reducible exact rng_zcmp _ _ | with_reducible exact yand7 _ | with_reducible exact rng_toInt _ | with_reducible exact yarr23 (by omega) | with_reducible exact yarr57 (by omega) | with_reducible exact Or.inl rfl | with_reducible exact Or.inr rfl) (by first | exact f93 | exact f209 | exact i3) (by first | exact t93 | exact t209 | exact i4) (by first | omega | assumption | with_reducible exact rng_ld _ _ _ | with_reducible exact rng_yand _ _ | with_reducible exact rng_yor _ _ | with_reducible exact rng_zcmp _ _ | with_reducible exact yand7 _ | with_reducible exact rng_toInt _ | with_reducible exact yarr23 (by omega) | with_reducible exact yarr57 (by omega) | with_reducible exact Or.inl rfl | with_reducible exact Or.inr rfl) (by first | exact g93 | exact g209) (by omega)
        · skip
          have sx4 := shx (x := x4) (m := x2) (n := ld M 92 5) (by omega) j1 (by omega)
          have sx5 := shx (x := x5) (m := x2) (n := ld M 92 5) (by omega) j1 (by omega)
          have sx7 := shx (x := x7) (m := x2) (n := ld M 92 5) (by omega) j1 (by omega)
          have w96 : ld M6 96 (8 * ydiv x4 x2 + ydiv x5 x2) = ld M 96 (8 * ydiv x4 x2 + ydiv x5 x2) := i3.ld (by omega)
          have b96 := hTBs (ydiv x4 x2) (ydiv x5 x2) (by omega) (by omega) (by omega) (by omega)
          refine uX12_shelf_127 (by first | omega | assumption | with_reducible exact rng_ld _ _ _ | with_reducible exact rng_yand _ _ | with_reducible exact rng_yor _ _ | with_reducible exact rng_zcmp _ _ | with_reducible exact yand7 _ | with_reducible exact rng_toInt _ | with_reducible exact yarr23 (by omega) | with_reducible exact yarr57 (by omega) | with_reducible exact Or.inl rfl | with_reducible exact Or.inr rfl) (fun hc => ?_) (fun hc => ?_)
          · skip
            refine uX12_shelf_150 (by first | omega | assumption | with_reducible exact rng_ld _ _ _ | with_reducible exact rng_yand _ _ | with_reducible exact rng_yor _ _ | with_reducible exact rng_zcmp _ _ | with_reducible exact yand7 _ | with_reducible exact rng_toInt _ | with_reducible exact yarr23 (by omega) | with_reducible exact yarr57 (by omega) | with_reducible exact Or.inl rfl | with_reducible exact Or.inr rfl) (by first | omega | assumption | with_reducible exact rng_ld _ _ _ | with_reducible exact rng_yand _ _ | with_reducible exact rng_yor _ _ | with_reducible exact rng_zcmp _ _ | with_reducible exact yand7 _ | with_reducible exact rng_toInt _ | with_reducible exact yarr23 (by omega) | with_reducible exact yarr57 (by omega) | with_reducible exact Or.inl rfl | with_reducible exact Or.inr rfl) (by first | omega | assumption | with_reducible exact rng_ld _ _ _ | with_reducible exact rng_yand _ _ | with_reducible exact rng_yor _ _ | with_reducible exact rng_zcmp _ _ | with_reducible exact yand7 _ | with_reducible exact rng_toInt _ | with_reducible exact yarr23 (by omega) | with_reducible exact yarr57 (by omega) | with_reducible exact Or.inl rfl | with_reducible exact Or.inr rfl) (by first | omega | assumption | with_reducible exact rng_ld _ _ _ | with_reducible exact rng_yand _ _ | with_reducible exact rng_yor _ _ | with_reducible exact rng_zcmp _ _ | with_reducible exact yand7 _ | with_reducible exact rng_toInt _ | with_reducible exact yarr23 (by omega) | with_reducible exact yarr57 (by omega) | with_reducible exact Or.inl rfl | with_reducible exact Or.inr rfl) (by first | omega | assumption | with_reducible exact rng_ld _ _ _ | with_reducible exact rng_yand _ _ | with_reducible exact rng_yor _ _ | with_reducible exact rng_zcmp _ _ | with_reducible exact yand7 _ | with_reducible exact rng_toInt _ | with_reducible exact yarr23 (by omega) | with_reducible exact yarr57 (by omega) | with_reducible exact Or.inl rfl | with_reducible exact Or.inr rfl) (by first | omega | assumption | with_reducible exact rng_ld _ _ _ | with_reducible exact rng_yand _ _ | with_reducible exact rng_yor _ _ | with_reducible exact rng_zcmp _ _ | with_reducible exact yand7 _ | with_reducible exact rng_toInt _ | with_reducible exact yarr23 (by omega) | with_reducible exact yarr57 (by omega) | with_reducible exact Or.inl rfl | with_reducible exact Or.inr rfl) (by first | omega | assumption | with_reducible exact rng_ld _ _ _ | with_reducible exact rng_yand _ _ | with_reducible exact rng_yor _ _ | with_reducible exact rng_zcmp _ _ | with_reducible exact yand7 _ | with_reducible exact rng_toInt _ | with_reducible exact yarr23 (by omega) | with_reducible exact yarr57 (by omega) | with_reducible exact Or.inl rfl | with_reducible exact Or.inr rfl) (fun hc => ?_) (fun hc => ?_)
            · skip
              try rw [w96] at hc
              refine uX12_shelf_182 ?_
              refine uX12_shelf_183 (by first | omega | assumption | with_reducible exact rng_ld _ _ _ | with_reducible exact rng_yand _ _ | with_reducible exact rng_yor _ _ | with_reducible exact rng_zcmp _ _ | with_reducible exact yand7 _ | with_reducible exact rng_toInt _ | with_reducible exact yarr23 (by omega) | with_reducible exact yarr57 (by omega) | with_reducible exact Or.inl rfl | with_reducible exact Or.inr rfl) (fun hc => ?_) (fun hc => ?_)
              · skip
                refine uX12_shelf_199 ?_
                refine uX12_shelf_200 ?_
                exact ih2 _ _ _ _ _ _ _ M6 fM ⟨j1, j2, j3⟩ ⟨j4, j5⟩ (by first | omega | assumption | with_reducible exact rng_ld _ _ _ | with_reducible exact rng_yand _ _ | with_reducible exact rng_yor _ _ | with_reducible exact rng_zcmp _ _ | with_reducible exact yand7 _ | with_reducible exact rng_toInt _ | with_reducible exact yarr23 (by omega) | with_reducible exact yarr57 (by omega) | with_reducible exact Or.inl rfl | with_reducible exact Or.inr rfl) i3 i4 (by first | omega | assumption | with_reducible exact rng_ld _ _ _ | with_reducible exact rng_yand _ _ | with_reducible exact rng_yor _ _ | with_reducible exact rng_zcmp _ _ | with_reducible exact yand7 _ | with_reducible exact rng_toInt _ | with_reducible exact yarr23 (by omega) | with_reducible exact yarr57 (by omega) | with_reducible exact Or.inl rfl | with_reducible exact Or.inr rfl) (by first | omega | assumption | with_reducible exact rng_ld _ _ _ | with_reducible exact rng_yand _ _ | with_reducible exact rng_yor _ _ | with_reducible exact rng_zcmp _ _ | with_reducible exact yand7 _ | with_reducible exact rng_toInt _ | with_reducible exact yarr23 (by omega) | with_reducible exact yarr57 (by omega) | with_reducible exact Or.inl rfl | with_reducible exact Or.inr rfl) (by first | exact i6 | exact i7) (by first | exact SHx.z | exact i8.s1 (by omega) ⟨(by first | exact Or.inl (by omega) | exact Or.inr ((ybitZ (by omega) (by omega)).mp (by omega))), (ybitZ (by omega) (by omega)).mp (by omega)⟩ | exact i8.s0 (fun q => absurd ((ybitZ (by omega) (by omega)).mpr q.2) (by omega)) | exact i8.s0 (fun q => q.1.elim (fun w => by omega) (fun w => absurd ((ybitZ (by omega) (by omega)).mpr w) (by omega))) | (exfalso; omega)) (by first | exact rng_yor _ _ | (show yR 0; decide)) (by omega)
              · skip
                refine uX12_shelf_192 ?_
                refine uX12_shelf_200 ?_
                exact ih2 _ _ _ _ _ _ _ M6 fM ⟨j1, j2, j3⟩ ⟨j4, j5⟩ (by first | omega | assumption | with_reducible exact rng_ld _ _ _ | with_reducible exact rng_yand _ _ | with_reducible exact rng_yor _ _ | with_reducible exact rng_zcmp _ _ | with_reducible exact yand7 _ | with_reducible exact rng_toInt _ | with_reducible exact yarr23 (by omega) | with_reducible exact yarr57 (by omega) | with_reducible exact Or.inl rfl | with_reducible exact Or.inr rfl) i3 i4 (by first | omega | assumption | with_reducible exact rng_ld _ _ _ | with_reducible exact rng_yand _ _ | with_reducible exact rng_yor _ _ | with_reducible exact rng_zcmp _ _ | with_reducible exact yand7 _ | with_reducible exact rng_toInt _ | with_reducible exact yarr23 (by omega) | with_reducible exact yarr57 (by omega) | with_reducible exact Or.inl rfl | with_reducible exact Or.inr rfl) (by first | omega | assumption | with_reducible exact rng_ld _ _ _ | with_reducible exact rng_yand _ _ | with_reducible exact rng_yor _ _ | with_reducible exact rng_zcmp _ _ | with_reducible exact yand7 _ | with_reducible exact rng_toInt _ | with_reducible exact yarr23 (by omega) | with_reducible exact yarr57 (by omega) | with_reducible exact Or.inl rfl | with_reducible exact Or.inr rfl) (by first | exact i6 | exact i7) (by first | exact SHx.z | exact i8.s1 (by omega) ⟨(by first | exact Or.inl (by omega) | exact Or.inr ((ybitZ (by omega) (by omega)).mp (by omega))), (ybitZ (by omega) (by omega)).mp (by omega)⟩ | exact i8.s0 (fun q => absurd ((ybitZ (by omega) (by omega)).mpr q.2) (by omega)) | exact i8.s0 (fun q => q.1.elim (fun w => by omega) (fun w => absurd ((ybitZ (by omega) (by omega)).mpr w) (by omega))) | (exfalso; omega)) (by first | exact rng_yor _ _ | (show yR 0; decide)) (by omega)
            · skip
              rw [w96] at hc
              refine uX12_shelf_178 ?_
              refine uX12_shelf_183 (by first | omega | assumption | with_reducible exact rng_ld _ _ _ | with_reducible exact rng_yand _ _ | with_reducible exact rng_yor _ _ | with_reducible exact rng_zcmp _ _ | with_reducible exact yand7 _ | with_reducible exact rng_toInt _ | with_reducible exact yarr23 (by omega) | with_reducible exact yarr57 (by omega) | with_reducible exact Or.inl rfl | with_reducible exact Or.inr rfl) (fun hc => ?_) (fun hc => ?_)
              · skip
                refine uX12_shelf_199 ?_
                refine uX12_shelf_200 ?_
                exact ih2 _ _ _ _ _ _ _ M6 fM ⟨j1, j2, j3⟩ ⟨j4, j5⟩ (by first | omega | assumption | with_reducible exact rng_ld _ _ _ | with_reducible exact rng_yand _ _ | with_reducible exact rng_yor _ _ | with_reducible exact rng_zcmp _ _ | with_reducible exact yand7 _ | with_reducible exact rng_toInt _ | with_reducible exact yarr23 (by omega) | with_reducible exact yarr57 (by omega) | with_reducible exact Or.inl rfl | with_reducible exact Or.inr rfl) i3 i4 (by first | omega | assumption | with_reducible exact rng_ld _ _ _ | with_reducible exact rng_yand _ _ | with_reducible exact rng_yor _ _ | with_reducible exact rng_zcmp _ _ | with_reducible exact yand7 _ | with_reducible exact rng_toInt _ | with_reducible exact yarr23 (by omega) | with_reducible exact yarr57 (by omega) | with_reducible exact Or.inl rfl | with_reducible exact Or.inr rfl) (by first | omega | assumption | with_reducible exact rng_ld _ _ _ | with_reducible exact rng_yand _ _ | with_reducible exact rng_yor _ _ | with_reducible exact rng_zcmp _ _ | with_reducible exact yand7 _ | with_reducible exact rng_toInt _ | with_reducible exact yarr23 (by omega) | with_reducible exact yarr57 (by omega) | with_reducible exact Or.inl rfl | with_reducible exact Or.inr rfl) (by first | exact i6 | exact i7) (by first | exact SHx.z | exact i8.s1 (by omega) ⟨(by first | exact Or.inl (by omega) | exact Or.inr ((ybitZ (by omega) (by omega)).mp (by omega))), (ybitZ (by omega) (by omega)).mp (by omega)⟩ | exact i8.s0 (fun q => absurd ((ybitZ (by omega) (by omega)).mpr q.2) (by omega)) | exact i8.s0 (fun q => q.1.elim (fun w => by omega) (fun w => absurd ((ybitZ (by omega) (by omega)).mpr w) (by omega))) | (exfalso; omega)) (by first | exact rng_yor _ _ | (show yR 0; decide)) (by omega)
              · skip
                refine uX12_shelf_192 ?_
                refine uX12_shelf_200 ?_
                exact ih2 _ _ _ _ _ _ _ M6 fM ⟨j1, j2, j3⟩ ⟨j4, j5⟩ (by first | omega | assumption | with_reducible exact rng_ld _ _ _ | with_reducible exact rng_yand _ _ | with_reducible exact rng_yor _ _ | with_reducible exact rng_zcmp _ _ | with_reducible exact yand7 _ | with_reducible exact rng_toInt _ | with_reducible exact yarr23 (by omega) | with_reducible exact yarr57 (by omega) | with_reducible exact Or.inl rfl | with_reducible exact Or.inr rfl) i3 i4 (by first | omega | assumption | with_reducible exact rng_ld _ _ _ | with_reducible exact rng_yand _ _ | with_reducible exact rng_yor _ _ | with_reducible exact rng_zcmp _ _ | with_reducible exact yand7 _ | with_reducible exact rng_toInt _ | with_reducible exact yarr23 (by omega) | with_reducible exact yarr57 (by omega) | with_reducible exact Or.inl rfl | with_reducible exact Or.inr rfl) (by first | omega | assumption | with_reducible exact rng_ld _ _ _ | with_reducible exact rng_yand _ _ | with_reducible exact rng_yor _ _ | with_reducible exact rng_zcmp _ _ | with_reducible exact yand7 _ | with_reducible exact rng_toInt _ | with_reducible exact yarr23 (by omega) | with_reducible exact yarr57 (by omega) | with_reducible exact Or.inl rfl | with_reducible exact Or.inr rfl) (by first | exact i6 | exact i7) (by first | exact SHx.z | exact i8.s1 (by omega) ⟨(by first | exact Or.inl (by omega) | exact Or.inr ((ybitZ (by omega) (by omega)).mp (by omega))), (ybitZ (by omega) (by omega)).mp (by omega)⟩ | exact i8.s0 (fun q => absurd ((ybitZ (by omega) (by omega)).mpr q.2) (by omega)) | exact i8.s0 (fun q => q.1.elim (fun w => by omega) (fun w => absurd ((ybitZ (by omega) (by omega)).mpr w) (by omega))) | (exfalso; omega)) (by first | exact rng_yor _ _ | (show yR 0; decide)) (by omega)
          · skip
            have w94 : ld M6 94 (8 * yrem x4 x2 + yrem x5 x2) = ld M 94 (8 * yrem x4 x2 + yrem x5 x2) := i3.ld (by omega)
            have b94 := hTBm (yrem x4 x2) (yrem x5 x2) (by omega) (by omega) (by omega) (by omega)
            refine uX12_shelf_131 (by first | omega | assumption | with_reducible exact rng_ld _ _ _ | with_reducible exact rng_yand _ _ | with_reducible exact rng_yor _ _ | with_reducible exact rng_zcmp _ _ | with_reducible exact yand7 _ | with_reducible exact rng_toInt _ | with_reducible exact yarr23 (by omega) | with_reducible exact yarr57 (by omega) | with_reducible exact Or.inl rfl | with_reducible exact Or.inr rfl) (by first | omega | assumption | with_reducible exact rng_ld _ _ _ | with_reducible exact rng_yand _ _ | with_reducible exact rng_yor _ _ | with_reducible exact rng_zcmp _ _ | with_reducible exact yand7 _ | with_reducible exact rng_toInt _ | with_reducible exact yarr23 (by omega) | with_reducible exact yarr57 (by omega) | with_reducible exact Or.inl rfl | with_reducible exact Or.inr rfl) (by first | omega | assumption | with_reducible exact rng_ld _ _ _ | with_reducible exact rng_yand _ _ | with_reducible exact rng_yor _ _ | with_reducible exact rng_zcmp _ _ | with_reducible exact yand7 _ | with_reducible exact rng_toInt _ | with_reducible exact yarr23 (by omega) | with_reducible exact yarr57 (by omega) | with_reducible exact Or.inl rfl | with_reducible exact Or.inr rfl) (by first | omega | assumption | with_reducible exact rng_ld _ _ _ | with_reducible exact rng_yand _ _ | with_reducible exact rng_yor _ _ | with_reducible exact rng_zcmp _ _ | with_reducible exact yand7 _ | with_reducible exact rng_toInt _ | with_reducible exact yarr23 (by omega) | with_reducible exact yarr57 (by omega) | with_reducible exact Or.inl rfl | with_reducible exact Or.inr rfl) (by first | omega | assumption | with_reducible exact rng_ld _ _ _ | with_reducible exact rng_yand _ _ | with_reducible exact rng_yor _ _ | with_reducible exact rng_zcmp _ _ | with_reducible exact yand7 _ | with_reducible exact rng_toInt _ | with_reducible exact yarr23 (by omega) | with_reducible exact yarr57 (by omega) | with_reducible exact Or.inl rfl | with_reducible exact Or.inr rfl) (by first | omega | assumption | with_reducible exact rng_ld _ _ _ | with_reducible exact rng_yand _ _ | with_reducible exact rng_yor _ _ | with_reducible exact rng_zcmp _ _ | with_reducible exact yand7 _ | with_reducible exact rng_toInt _ | with_reducible exact yarr23 (by omega) | with_reducible exact yarr57 (by omega) | with_reducible exact Or.inl rfl | with_reducible exact Or.inr rfl) ?_
            refine c12_mayBeX  (by first | omega | assumption | with_reducible exact rng_ld _ _ _ | with_reducible exact rng_yand _ _ | with_reducible exact rng_yor _ _ | with_reducible exact rng_zcmp _ _ | with_reducible exact yand7 _ | with_reducible exact rng_toInt _ | with_reducible exact yarr23 (by omega) | with_reducible exact yarr57 (by omega) | with_reducible exact Or.inl rfl | with_reducible exact Or.inr rfl) (fun v131 p8a => ?_)
            have r131 := p8a
            rw [w94] at r131
            refine uX12_shelf_147 (by first | omega | assumption | with_reducible exact rng_ld _ _ _ | with_reducible exact rng_yand _ _ | with_reducible exact rng_yor _ _ | with_reducible exact rng_zcmp _ _ | with_reducible exact yand7 _ | with_reducible exact rng_toInt _ | with_reducible exact yarr23 (by omega) | with_reducible exact yarr57 (by omega) | with_reducible exact Or.inl rfl | with_reducible exact Or.inr rfl) (fun hc => ?_) (fun hc => ?_)
            · skip
              try rw [w96] at hc
              refine uX12_shelf_182 ?_
              refine uX12_shelf_183 (by first | omega | assumption | with_reducible exact rng_ld _ _ _ | with_reducible exact rng_yand _ _ | with_reducible exact rng_yor _ _ | with_reducible exact rng_zcmp _ _ | with_reducible exact yand7 _ | with_reducible exact rng_toInt _ | with_reducible exact yarr23 (by omega) | with_reducible exact yarr57 (by omega) | with_reducible exact Or.inl rfl | with_reducible exact Or.inr rfl) (fun hc => ?_) (fun hc => ?_)
              · skip
                refine uX12_shelf_199 ?_
                refine uX12_shelf_200 ?_
                exact ih2 _ _ _ _ _ _ _ M6 fM ⟨j1, j2, j3⟩ ⟨j4, j5⟩ (by first | omega | assumption | with_reducible exact rng_ld _ _ _ | with_reducible exact rng_yand _ _ | with_reducible exact rng_yor _ _ | with_reducible exact rng_zcmp _ _ | with_reducible exact yand7 _ | with_reducible exact rng_toInt _ | with_reducible exact yarr23 (by omega) | with_reducible exact yarr57 (by omega) | with_reducible exact Or.inl rfl | with_reducible exact Or.inr rfl) i3 i4 (by first | omega | assumption | with_reducible exact rng_ld _ _ _ | with_reducible exact rng_yand _ _ | with_reducible exact rng_yor _ _ | with_reducible exact rng_zcmp _ _ | with_reducible exact yand7 _ | with_reducible exact rng_toInt _ | with_reducible exact yarr23 (by omega) | with_reducible exact yarr57 (by omega) | with_reducible exact Or.inl rfl | with_reducible exact Or.inr rfl) (by first | omega | assumption | with_reducible exact rng_ld _ _ _ | with_reducible exact rng_yand _ _ | with_reducible exact rng_yor _ _ | with_reducible exact rng_zcmp _ _ | with_reducible exact yand7 _ | with_reducible exact rng_toInt _ | with_reducible exact yarr23 (by omega) | with_reducible exact yarr57 (by omega) | with_reducible exact Or.inl rfl | with_reducible exact Or.inr rfl) (by first | exact i6 | exact i7) (by first | exact SHx.z | exact i8.s1 (by omega) ⟨(by first | exact Or.inl (by omega) | exact Or.inr ((ybitZ (by omega) (by omega)).mp (by omega))), (ybitZ (by omega) (by omega)).mp (by omega)⟩ | exact i8.s0 (fun q => absurd ((ybitZ (by omega) (by omega)).mpr q.2) (by omega)) | exact i8.s0 (fun q => q.1.elim (fun w => by omega) (fun w => absurd ((ybitZ (by omega) (by omega)).mpr w) (by omega))) | (exfalso; omega)) (by first | exact rng_yor _ _ | (show yR 0; decide)) (by omega)
              · skip
                refine uX12_shelf_192 ?_
                refine uX12_shelf_200 ?_
                exact ih2 _ _ _ _ _ _ _ M6 fM ⟨j1, j2, j3⟩ ⟨j4, j5⟩ (by first | omega | assumption | with_reducible exact rng_ld _ _ _ | with_reducible exact rng_yand _ _ | with_reducible exact rng_yor _ _ | with_reducible exact rng_zcmp _ _ | with_reducible exact yand7 _ | with_reducible exact rng_toInt _ | with_reducible exact yarr23 (by omega) | with_reducible exact yarr57 (by omega) | with_reducible exact Or.inl rfl | with_reducible exact Or.inr rfl) i3 i4 (by first | omega | assumption | with_reducible exact rng_ld _ _ _ | with_reducible exact rng_yand _ _ | with_reducible exact rng_yor _ _ | with_reducible exact rng_zcmp _ _ | with_reducible exact yand7 _ | with_reducible exact rng_toInt _ | with_reducible exact yarr23 (by omega) | with_reducible exact yarr57 (by omega) | with_reducible exact Or.inl rfl | with_reducible exact Or.inr rfl) (by first | omega | assumption | with_reducible exact rng_ld _ _ _ | with_reducible exact rng_yand _ _ | with_reducible exact rng_yor _ _ | with_reducible exact rng_zcmp _ _ | with_reducible exact yand7 _ | with_reducible exact rng_toInt _ | with_reducible exact yarr23 (by omega) | with_reducible exact yarr57 (by omega) | with_reducible exact Or.inl rfl | with_reducible exact Or.inr rfl) (by first | exact i6 | exact i7) (by first | exact SHx.z | exact i8.s1 (by omega) ⟨(by first | exact Or.inl (by omega) | exact Or.inr ((ybitZ (by omega) (by omega)).mp (by omega))), (ybitZ (by omega) (by omega)).mp (by omega)⟩ | exact i8.s0 (fun q => absurd ((ybitZ (by omega) (by omega)).mpr q.2) (by omega)) | exact i8.s0 (fun q => q.1.elim (fun w => by omega) (fun w => absurd ((ybitZ (by omega) (by omega)).mpr w) (by omega))) | (exfalso; omega)) (by first | exact rng_yor _ _ | (show yR 0; decide)) (by omega)
            · skip
              refine uX12_shelf_150 (by first | omega | assumption | with_reducible exact rng_ld _ _ _ | with_reducible exact rng_yand _ _ | with_reducible exact rng_yor _ _ | with_reducible exact rng_zcmp _ _ | with_reducible exact yand7 _ | with_reducible exact rng_toInt _ | with_reducible exact yarr23 (by omega) | with_reducible exact yarr57 (by omega) | with_reducible exact Or.inl rfl | with_reducible exact Or.inr rfl) (by first | omega | assumption | with_reducible exact rng_ld _ _ _ | with_reducible exact rng_yand _ _ | with_reducible exact rng_yor _ _ | with_reducible exact rng_zcmp _ _ | with_reducible exact yand7 _ | with_reducible exact rng_toInt _ | with_reducible exact yarr23 (by omega) | with_reducible exact yarr57 (by omega) | with_reducible exact Or.inl rfl | with_reducible exact Or.inr rfl) (by first | omega | assumption | with_reducible exact rng_ld _ _ _ | with_reducible exact rng_yand _ _ | with_reducible exact rng_yor _ _ | with_reducible exact rng_zcmp _ _ | with_reducible exact yand7 _ | with_reducible exact rng_toInt _ | with_reducible exact yarr23 (by omega) | with_reducible exact yarr57 (by omega) | with_reducible exact Or.inl rfl | with_reducible exact Or.inr rfl) (by first | omega | assumption | with_reducible exact rng_ld _ _ _ | with_reducible exact rng_yand _ _ | with_reducible exact rng_yor _ _ | with_reducible exact rng_zcmp _ _ | with_reducible exact yand7 _ | with_reducible exact rng_toInt _ | with_reducible exact yarr23 (by omega) | with_reducible exact yarr57 (by omega) | with_reducible exact Or.inl rfl | with_reducible exact Or.inr rfl) (by first | omega | assumption | with_reducible exact rng_ld _ _ _ | with_reducible exact rng_yand _ _ | with_reducible exact rng_yor _ _ | with_reducible exact rng_zcmp _ _ | with_reducible exact yand7 _ | with_reducible exact rng_toInt _ | with_reducible exact yarr23 (by omega) | with_reducible exact yarr57 (by omega) | with_reducible exact Or.inl rfl | with_reducible exact Or.inr rfl) (by first | omega | assumption | with_reducible exact rng_ld _ _ _ | with_reducible exact rng_yand _ _ | with_reducible exact rng_yor _ _ | with_reducible exact rng_zcmp _ _ | with_reducible exact yand7 _ | with_reducible exact rng_toInt _ | with_reducible exact yarr23 (by omega) | with_reducible exact yarr57 (by omega) | with_reducible exact Or.inl rfl | with_reducible exact Or.inr rfl) (by first | omega | assumption | with_reducible exact rng_ld _ _ _ | with_reducible exact rng_yand _ _ | with_reducible exact rng_yor _ _ | with_reducible exact rng_zcmp _ _ | with_reducible exact yand7 _ | with_reducible exact rng_toInt _ | with_reducible exact yarr23 (by omega) | with_reducible exact yarr57 (by omega) | with_reducible exact Or.inl rfl | with_reducible exact Or.inr rfl) (fun hc => ?_) (fun hc => ?_)
              · skip
                try rw [w96] at hc
                refine uX12_shelf_182 ?_
                refine uX12_shelf_183 (by first | omega | assumption | with_reducible exact rng_ld _ _ _ | with_reducible exact rng_yand _ _ | with_reducible exact rng_yor _ _ | with_reducible exact rng_zcmp _ _ | with_reducible exact yand7 _ | with_reducible exact rng_toInt _ | with_reducible exact yarr23 (by omega) | with_reducible exact yarr57 (by omega) | with_reducible exact Or.inl rfl | with_reducible exact Or.inr rfl) (fun hc => ?_) (fun hc => ?_)
                · skip
                  refine uX12_shelf_199 ?_
                  refine uX12_shelf_200 ?_
                  exact ih2 _ _ _ _ _ _ _ M6 fM ⟨j1, j2, j3⟩ ⟨j4, j5⟩ (by first | omega | assumption | with_reducible exact rng_ld _ _ _ | with_reducible exact rng_yand _ _ | with_reducible exact rng_yor _ _ | with_reducible exact rng_zcmp _ _ | with_reducible exact yand7 _ | with_reducible exact rng_toInt _ | with_reducible exact yarr23 (by omega) | with_reducible exact yarr57 (by omega) | with_reducible exact Or.inl rfl | with_reducible exact Or.inr rfl) i3 i4 (by first | omega | assumption | with_reducible exact rng_ld _ _ _ | with_reducible exact rng_yand _ _ | with_reducible exact rng_yor _ _ | with_reducible exact rng_zcmp _ _ | with_reducible exact yand7 _ | with_reducible exact rng_toInt _ | with_reducible exact yarr23 (by omega) | with_reducible exact yarr57 (by omega) | with_reducible exact Or.inl rfl | with_reducible exact Or.inr rfl) (by first | omega | assumption | with_reducible exact rng_ld _ _ _ | with_reducible exact rng_yand _ _ | with_reducible exact rng_yor _ _ | with_reducible exact rng_zcmp _ _ | with_reducible exact yand7 _ | with_reducible exact rng_toInt _ | with_reducible exact yarr23 (by omega) | with_reducible exact yarr57 (by omega) | with_reducible exact Or.inl rfl | with_reducible exact Or.inr rfl) (by first | exact i6 | exact i7) (by first | exact SHx.z | exact i8.s1 (by omega) ⟨(by first | exact Or.inl (by omega) | exact Or.inr ((ybitZ (by omega) (by omega)).mp (by omega))), (ybitZ (by omega) (by omega)).mp (by omega)⟩ | exact i8.s0 (fun q => absurd ((ybitZ (by omega) (by omega)).mpr q.2) (by omega)) | exact i8.s0 (fun q => q.1.elim (fun w => by omega) (fun w => absurd ((ybitZ (by omega) (by omega)).mpr w) (by omega))) | (exfalso; omega)) (by first | exact rng_yor _ _ | (show yR 0; decide)) (by omega)
                · skip
                  refine uX12_shelf_192 ?_
                  refine uX12_shelf_200 ?_
                  exact ih2 _ _ _ _ _ _ _ M6 fM ⟨j1, j2, j3⟩ ⟨j4, j5⟩ (by first | omega | assumption | with_reducible exact rng_ld _ _ _ | with_reducible exact rng_yand _ _ | with_reducible exact rng_yor _ _ | with_reducible exact rng_zcmp _ _ | with_reducible exact yand7 _ | with_reducible exact rng_toInt _ | with_reducible exact yarr23 (by omega) | with_reducible exact yarr57 (by omega) | with_reducible exact Or.inl rfl | with_reducible exact Or.inr rfl) i3 i4 (by first | omega | assumption | with_reducible exact rng_ld _ _ _ | with_reducible exact rng_yand _ _ | with_reducible exact rng_yor _ _ | with_reducible exact rng_zcmp _ _ | with_reducible exact yand7 _ | with_reducible exact rng_toInt _ | with_reducible exact yarr23 (by omega) | with_reducible exact yarr57 (by omega) | with_reducible exact Or.inl rfl | with_reducible exact Or.inr rfl) (by first | omega | assumption | with_reducible exact rng_ld _ _ _ | with_reducible exact rng_yand _ _ | with_reducible exact rng_yor _ _ | with_reducible exact rng_zcmp _ _ | with_reducible exact yand7 _ | with_reducible exact rng_toInt _ | with_reducible exact yarr23 (by omega) | with_reducible exact yarr57 (by omega) | with_reducible exact Or.inl rfl | with_reducible exact Or.inr rfl) (by first | exact i6 | exact i7) (by first | exact SHx.z | exact i8.s1 (by omega) ⟨(by first | exact Or.inl (by omega) | exact Or.inr ((ybitZ (by omega) (by omega)).mp (by omega))), (ybitZ (by omega) (by omega)).mp (by omega)⟩ | exact i8.s0 (fun q => absurd ((ybitZ (by omega) (by omega)).mpr q.2) (by omega)) | exact i8.s0 (fun q => q.1.elim (fun w => by omega) (fun w => absurd ((ybitZ (by omega) (by omega)).mpr w) (by omega))) | (exfalso; omega)) (by first | exact rng_yor _ _ | (show yR 0; decide)) (by omega)
              · skip
                rw [w96] at hc
                refine uX12_shelf_178 ?_
                refine uX12_shelf_183 (by first | omega | assumption | with_reducible exact rng_ld _ _ _ | with_reducible exact rng_yand _ _ | with_reducible exact rng_yor _ _ | with_reducible exact rng_zcmp _ _ | with_reducible exact yand7 _ | with_reducible exact rng_toInt _ | with_reducible exact yarr23 (by omega) | with_reducible exact yarr57 (by omega) | with_reducible exact Or.inl rfl | with_reducible exact Or.inr rfl) (fun hc => ?_) (fun hc => ?_)
                · skip
                  refine uX12_shelf_199 ?_
                  refine uX12_shelf_200 ?_
                  exact ih2 _ _ _ _ _ _ _ M6 fM ⟨j1, j2, j3⟩ ⟨j4, j5⟩ (by first | omega | assumption | with_reducible exact rng_ld _ _ _ | with_reducible exact rng_yand _ _ | with_reducible exact rng_yor _ _ | with_reducible exact rng_zcmp _ _ | with_reducible exact yand7 _ | with_reducible exact rng_toInt _ | with_reducible exact yarr23 (by omega) | with_reducible exact yarr57 (by omega) | with_reducible exact Or.inl rfl | with_reducible exact Or.inr rfl) i3 i4 (by first | omega | assumption | with_reducible exact rng_ld _ _ _ | with_reducible exact rng_yand _ _ | with_reducible exact rng_yor _ _ | with_reducible exact rng_zcmp _ _ | with_reducible exact yand7 _ | with_reducible exact rng_toInt _ | with_reducible exact yarr23 (by omega) | with_reducible exact yarr57 (by omega) | with_reducible exact Or.inl rfl | with_reducible exact Or.inr rfl) (by first | omega | assumption | with_reducible exact rng_ld _ _ _ | with_reducible exact rng_yand _ _ | with_reducible exact rng_yor _ _ | with_reducible exact rng_zcmp _ _ | with_reducible exact yand7 _ | with_reducible exact rng_toInt _ | with_reducible exact yarr23 (by omega) | with_reducible exact yarr57 (by omega) | with_reducible exact Or.inl rfl | with_reducible exact Or.inr rfl) (by first | exact i6 | exact i7) (by first | exact SHx.z | exact i8.s1 (by omega) ⟨(by first | exact Or.inl (by omega) | exact Or.inr ((ybitZ (by omega) (by omega)).mp (by omega))), (ybitZ (by omega) (by omega)).mp (by omega)⟩ | exact i8.s0 (fun q => absurd ((ybitZ (by omega) (by omega)).mpr q.2) (by omega)) | exact i8.s0 (fun q => q.1.elim (fun w => by omega) (fun w => absurd ((ybitZ (by omega) (by omega)).mpr w) (by omega))) | (exfalso; omega)) (by first | exact rng_yor _ _ | (show yR 0; decide)) (by omega)
                · skip
                  refine uX12_shelf_192 ?_
                  refine uX12_shelf_200 ?_
                  exact ih2 _ _ _ _ _ _ _ M6 fM ⟨j1, j2, j3⟩ ⟨j4, j5⟩ (by first | omega | assumption | with_reducible exact rng_ld _ _ _ | with_reducible exact rng_yand _ _ | with_reducible exact rng_yor _ _ | with_reducible exact rng_zcmp _ _ | with_reducible exact yand7 _ | with_reducible exact rng_toInt _ | with_reducible exact yarr23 (by omega) | with_reducible exact yarr57 (by omega) | with_reducible exact Or.inl rfl | with_reducible exact Or.inr rfl) i3 i4 (by first | omega | assumption | with_reducible exact rng_ld _ _ _ | with_reducible exact rng_yand _ _ | with_reducible exact rng_yor _ _ | with_reducible exact rng_zcmp _ _ | with_reducible exact yand7 _ | with_reducible exact rng_toInt _ | with_reducible exact yarr23 (by omega) | with_reducible exact yarr57 (by omega) | with_reducible exact Or.inl rfl | with_reducible exact Or.inr rfl) (by first | omega | assumption | with_reducible exact rng_ld _ _ _ | with_reducible exact rng_yand _ _ | with_reducible exact rng_yor _ _ | with_reducible exact rng_zcmp _ _ | with_reducible exact yand7 _ | with_reducible exact rng_toInt _ | with_reducible exact yarr23 (by omega) | with_reducible exact yarr57 (by omega) | with_reducible exact Or.inl rfl | with_reducible exact Or.inr rfl) (by first | exact i6 | exact i7) (by first | exact SHx.z | exact i8.s1 (by omega) ⟨(by first | exact Or.inl (by omega) | exact Or.inr ((ybitZ (by omega) (by omega)).mp (by omega))), (ybitZ (by omega) (by omega)).mp (by omega)⟩ | exact i8.s0 (fun q => absurd ((ybitZ (by omega) (by omega)).mpr q.2) (by omega)) | exact i8.s0 (fun q => q.1.elim (fun w => by omega) (fun w => absurd ((ybitZ (by omega) (by omega)).mpr w) (by omega))) | (exfalso; omega)) (by first | exact rng_yor _ _ | (show yR 0; decide)) (by omega)
  refine uX12_shelf_0 ?_
  intro M9 hM9
  replace fM := fr.put fM hM9 (by first | omega | (dsimp only [wSub, wRun, wNar, wFil, wCan, wLst, wCar, wDr, wFl, wMq, wRd, wRx, wCr, wTab, wTr, wNew, wKi, wKn, wTn, wOb, wPt, wTl, wOq]; done) | (dsimp only [wSub, wRun, wNar, wFil, wCan, wLst, wCar, wDr, wFl, wMq, wRd, wRx, wCr, wTab, wTr, wNew, wKi, wKn, wTn, wOb, wPt, wTl, wOq]; omega) | (simp [wSub, wRun, wNar, wFil, wCan, wLst, wCar, wDr, wFl, wMq, wRd, wRx, wCr, wTab, wTr, wNew, wKi, wKn, wTn, wOb, wPt, wTl, wOq]; done) | (simp [wSub, wRun, wNar, wFil, wCan, wLst, wCar, wDr, wFl, wMq, wRd, wRx, wCr, wTab, wTr, wNew, wKi, wKn, wTn, wOb, wPt, wTl, wOq]; omega))
  have z0 : T0 M M9 := fr.put fr.rf hM9 ⟨rfl, rfl⟩
  have z2 : ld M9 92 2 = ld M 92 2 := by rw [hM9, ld_putne (by omega)]
  have z11 : ld M9 92 11 = ld M 92 11 := by rw [hM9, ld_putne (by omega)]
  have z93 : ∀ j, ld M9 93 j = ld M 93 j := fun j => by rw [hM9, ld_putne (by omega)]
  have z5 : ld M9 92 5 = ld M 92 5 := by rw [hM9, ld_putne (by omega)]
  refine uX12_shelf_5 ?_
  refine c12_in  (by first | omega | assumption | with_reducible exact rng_ld _ _ _ | with_reducible exact rng_yand _ _ | with_reducible exact rng_yor _ _ | with_reducible exact rng_zcmp _ _ | with_reducible exact yand7 _ | with_reducible exact rng_toInt _ | with_reducible exact yarr23 (by omega) | with_reducible exact yarr57 (by omega) | with_reducible exact Or.inl rfl | with_reducible exact Or.inr rfl) (by first | omega | assumption | with_reducible exact rng_ld _ _ _ | with_reducible exact rng_yand _ _ | with_reducible exact rng_yor _ _ | with_reducible exact rng_zcmp _ _ | with_reducible exact yand7 _ | with_reducible exact rng_toInt _ | with_reducible exact yarr23 (by omega) | with_reducible exact yarr57 (by omega) | with_reducible exact Or.inl rfl | with_reducible exact Or.inr rfl) (by first | omega | assumption | with_reducible exact rng_ld _ _ _ | with_reducible exact rng_yand _ _ | with_reducible exact rng_yor _ _ | with_reducible exact rng_zcmp _ _ | with_reducible exact yand7 _ | with_reducible exact rng_toInt _ | with_reducible exact yarr23 (by omega) | with_reducible exact yarr57 (by omega) | with_reducible exact Or.inl rfl | with_reducible exact Or.inr rfl) (fun v10 p10a => ?_)
  refine uX12_shelf_11 (by first | omega | assumption | with_reducible exact rng_ld _ _ _ | with_reducible exact rng_yand _ _ | with_reducible exact rng_yor _ _ | with_reducible exact rng_zcmp _ _ | with_reducible exact yand7 _ | with_reducible exact rng_toInt _ | with_reducible exact yarr23 (by omega) | with_reducible exact yarr57 (by omega) | with_reducible exact Or.inl rfl | with_reducible exact Or.inr rfl) (fun hc => ?_) (fun hc => ?_)
  · skip
    refine uX12_shelf_16 (fun hc => ?_) (fun hc => ?_)
    · skip
      refine uX12_shelf_26 (by first | omega | assumption | with_reducible exact rng_ld _ _ _ | with_reducible exact rng_yand _ _ | with_reducible exact rng_yor _ _ | with_reducible exact rng_zcmp _ _ | with_reducible exact yand7 _ | with_reducible exact rng_toInt _ | with_reducible exact yarr23 (by omega) | with_reducible exact yarr57 (by omega) | with_reducible exact Or.inl rfl | with_reducible exact Or.inr rfl) (fun hc => ?_) (fun hc => ?_)
      · skip
        refine uX12_shelf_34 ?_
        refine uX12_shelf_38 (by first | omega | (rw [z2, z5]; omega)) (fun hc => ?_) (fun hc => ?_)
        · skip
          refine uX12_shelf_53 ?_
          exact (go 10000000).1 _ _ _ _ _ _ _ M9 fM (by first | exact ⟨j1, j2, j3⟩ | omega) (by first | exact ⟨j4, j5⟩ | omega | exact ⟨by rw [z5], by omega⟩) (by first | omega | (rw [z2, z5]; omega)) (by first | exact i3 | exact z0.up (fun o j hw => Or.inl hw)) (by first | exact i4 | exact (fun c h1 h2 => absurd h2 (by omega))) (by first | exact i6.up (fun a b a1 a2 b1 b2 q => by omega) | exact (fun a b a1 a2 b1 b2 q => absurd q (by omega))) (by omega)
        · skip
          refine uX12_shelf_50 ?_
          exact k _ _ fM (by first | (exfalso; omega) | exact Or.inr (Or.inr (Or.inl ⟨rfl, by omega, by omega, by rw [← z2, ← z5]; omega, z0⟩)))
      · skip
        refine uX12_shelf_30 ?_
        refine uX12_shelf_38 (by first | omega | (rw [z2, z5]; omega)) (fun hc => ?_) (fun hc => ?_)
        · skip
          refine uX12_shelf_53 ?_
          exact (go 10000000).1 _ _ _ _ _ _ _ M9 fM (by first | exact ⟨j1, j2, j3⟩ | omega) (by first | exact ⟨j4, j5⟩ | omega | exact ⟨by rw [z5], by omega⟩) (by first | omega | (rw [z2, z5]; omega)) (by first | exact i3 | exact z0.up (fun o j hw => Or.inl hw)) (by first | exact i4 | exact (fun c h1 h2 => absurd h2 (by omega))) (by first | exact i6.up (fun a b a1 a2 b1 b2 q => by omega) | exact (fun a b a1 a2 b1 b2 q => absurd q (by omega))) (by omega)
        · skip
          refine uX12_shelf_50 ?_
          exact k _ _ fM (by first | (exfalso; omega) | exact Or.inr (Or.inr (Or.inl ⟨rfl, by omega, by omega, by rw [← z2, ← z5]; omega, z0⟩)))
    · skip
      refine uX12_shelf_23 ?_
      exact k _ _ fM (Or.inr (Or.inl ⟨rfl, by omega, by omega, z0⟩))
  · skip
    refine uX12_shelf_14 ?_
    exact k _ _ fM (Or.inl ⟨rfl, by omega, z0⟩)
