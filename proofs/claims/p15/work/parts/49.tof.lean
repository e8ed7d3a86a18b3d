/-! SETS TURNED -/
def IV (f : Int → Int) (k : Int) : Prop := ∀ j, 0 ≤ j → j < k → (0 ≤ f j ∧ f j < k) ∧ f (f j) = j
theorem IV.cg {f g : Int → Int} {k : Int} (h : IV f k) (e : ∀ j, 0 ≤ j → j < k → g j = f j) : IV g k := fun j h1 h2 => by
  have h3 := h j h1 h2
  rw [e j h1 h2, e (f j) h3.1.1 h3.1.2]
  exact h3
theorem tOf_s {t : Int → Int} {s : Int} (hs : 0 ≤ s ∧ s < 2147483648) {n : Nat} (hn : n < 8) (ht : 0 ≤ t n ∧ t n < 8) : tOf t s (n + 1) = if bt s n = true then yor (tOf t s n) (yshl 1 (t n)) else tOf t s n := by
  simp only [tOf]
  rw [ytest hs (by omega), Int.toNat_natCast]
  split
  · rfl
  · rw [yshl_0' ht, yor_0 (tOf_rng t s n)]
theorem tOf_bt {t : Int → Int} {s : Int} (hs : 0 ≤ s ∧ s < 2147483648) : ∀ n : Nat, n ≤ 8 → (∀ a : Nat, a < n → 0 ≤ t a ∧ t a < 8) → ∀ i : Nat, (bt (tOf t s n) i = true ↔ ∃ b : Nat, b < n ∧ bt s b = true ∧ (t b).toNat = i)
  | 0, _, _, i => by
    simp only [tOf, bt_0]
    constructor
    · intro q; cases q
    · rintro ⟨b, hb, _⟩; omega
  | n + 1, hn, ht, i => by
    have ih := tOf_bt hs n (by omega) (fun a ha => ht a (by omega)) i
    have hq := ht n (by omega)
    rw [tOf_s hs (by omega) hq]
    constructor
    · intro q
      split at q
      · next hb =>
        rw [bt_yor, Bool.or_eq_true, bt_bit (by omega), decide_eq_true_eq] at q
        rcases q with q | q
        · obtain ⟨b, h1, h2, h3⟩ := ih.mp q
          exact ⟨b, by omega, h2, h3⟩
        · exact ⟨n, by omega, hb, q.symm⟩
      · obtain ⟨b, h1, h2, h3⟩ := ih.mp q
        exact ⟨b, by omega, h2, h3⟩
    · rintro ⟨b, h1, h2, h3⟩
      by_cases e : b = n
      · subst e
        rw [if_pos h2, bt_yor, Bool.or_eq_true, bt_bit (by omega), decide_eq_true_eq]
        exact Or.inr h3.symm
      · have q := ih.mpr ⟨b, by omega, h2, h3⟩
        split
        · rw [bt_yor, q, Bool.true_or]
        · exact q
theorem al_def (k : Int) : al k = (2 : Int) ^ k.toNat - 1 := rfl
theorem al_bt : ∀ n : Nat, n < 9 → ∀ i : Nat, i < 32 → bt ((2 : Int) ^ n - 1) i = decide (i < n) := by decide +kernel
theorem IV.t8 {f : Int → Int} {k : Int} (h : IV f k) (hk : k ≤ 8) : ∀ a : Nat, a < k.toNat → 0 ≤ f a ∧ f a < 8 := fun a ha => by
  have := (h a (by omega) (by omega)).1
  omega
theorem tOf_lt {f : Int → Int} {k s : Int} (h : IV f k) (hk : 1 ≤ k ∧ k ≤ 8) (hs : 0 ≤ s ∧ s < 2147483648) : 0 ≤ tOf f s k.toNat ∧ tOf f s k.toNat ≤ al k := by
  have q := bt_lt (a := tOf f s k.toNat) (n := k.toNat) (tOf_rng _ _ _) (by omega) (fun i h1 h2 => by
    cases hb : bt (tOf f s k.toNat) i with
    | false => rfl
    | true =>
      exfalso
      obtain ⟨b, b1, b2, b3⟩ := (tOf_bt hs k.toNat (by omega) (h.t8 hk.2) i).mp hb
      have := (h b (by omega) (by omega)).1
      omega)
  rw [al_def]
  omega
theorem tOf_tOf {f : Int → Int} {k s : Int} (h : IV f k) (hk : 1 ≤ k ∧ k ≤ 8) (hs : 0 ≤ s ∧ s ≤ al k) : tOf f (tOf f s k.toNat) k.toNat = s := by
  have h8 := al_le hk
  have hl := tOf_lt (s := s) h hk (by omega)
  refine bt_ext (tOf_rng _ _ _) (by omega) (fun i hi => ?_)
  rw [Bool.eq_iff_iff, tOf_bt (by omega) k.toNat (by omega) (h.t8 hk.2) i]
  constructor
  · rintro ⟨b, b1, b2, b3⟩
    obtain ⟨c, c1, c2, c3⟩ := (tOf_bt (by omega) k.toNat (by omega) (h.t8 hk.2) b).mp b2
    have qc := h c (by omega) (by omega)
    have e : f c = (b : Int) := by omega
    rw [e] at qc
    have : i = c := by omega
    rw [this]
    exact c2
  · intro q
    have hik : i < k.toNat := by
      rcases Nat.lt_or_ge i k.toNat with w | w
      · exact w
      · rw [bt_of_lt (n := k.toNat) (by rw [al_def] at hs; omega) w] at q
        cases q
    have qi := h i (by omega) (by omega)
    refine ⟨(f i).toNat, by omega, ?_, ?_⟩
    · exact (tOf_bt (by omega) k.toNat (by omega) (h.t8 hk.2) (f i).toNat).mpr ⟨i, hik, q, rfl⟩
    · rw [show (((f i).toNat : Nat) : Int) = f i by omega, qi.2, Int.toNat_natCast]
theorem tOf_al {f : Int → Int} {k : Int} (h : IV f k) (hk : 1 ≤ k ∧ k ≤ 8) : tOf f (al k) k.toNat = al k := by
  have h8 := al_le hk
  refine bt_ext (tOf_rng _ _ _) (by omega) (fun i hi => ?_)
  rw [Bool.eq_iff_iff, tOf_bt (by omega) k.toNat (by omega) (h.t8 hk.2) i, al_def, al_bt k.toNat (by omega) i hi, decide_eq_true_eq]
  constructor
  · rintro ⟨b, b1, b2, b3⟩
    have := (h b (by omega) (by omega)).1
    omega
  · intro q
    have qi := h i (by omega) (by omega)
    refine ⟨(f i).toNat, by omega, ?_, ?_⟩
    · rw [al_bt k.toNat (by omega) _ (by omega), decide_eq_true_eq]
      omega
    · rw [show (((f i).toNat : Nat) : Int) = f i by omega, qi.2, Int.toNat_natCast]
theorem low_bits : ∀ x : Nat, x < 256 → x ≠ 0 → ∀ b : Nat, b < 8 → bt (x : Int) b = (bt (yand (x : Int) ((x : Int) - 1)) b || decide (b = (low (x : Int)).toNat)) := by decide +kernel
theorem low_le : ∀ k : Nat, k < 9 → ∀ x : Nat, x < 256 → x ≠ 0 → (x : Int) ≤ (2 : Int) ^ k - 1 → low (x : Int) < k := by decide +kernel
theorem tOf_low {t : Int → Int} {x : Int} (hx : 1 ≤ x ∧ x < 256) {n : Nat} (hn : n ≤ 8) (ht : ∀ a : Nat, a < n → 0 ≤ t a ∧ t a < 8) (hl : 0 ≤ low x ∧ low x < n) : tOf t x n = yor (tOf t (yand x (x - 1)) n) (yshl 1 (t (low x))) := by
  obtain ⟨m, rfl⟩ := Int.eq_ofNat_of_zero_le (show 0 ≤ x by omega)
  have hy : 0 ≤ yand (m : Int) ((m : Int) - 1) ∧ yand (m : Int) ((m : Int) - 1) ≤ m := yand_le (by omega)
  have hb := low_bits m (by omega) (by omega)
  have hq := ht (low (m : Int)).toNat (by omega)
  rw [show (((low (m : Int)).toNat : Nat) : Int) = low (m : Int) by omega] at hq
  refine bt_ext (tOf_rng _ _ _) (rng_yor _ _) (fun i hi => ?_)
  rw [Bool.eq_iff_iff, tOf_bt (by omega) n hn ht i, bt_yor, Bool.or_eq_true, tOf_bt (by omega) n hn ht i, bt_bit (by omega), decide_eq_true_eq]
  constructor
  · rintro ⟨b, b1, b2, b3⟩
    rw [hb b (by omega), Bool.or_eq_true, decide_eq_true_eq] at b2
    rcases b2 with b2 | b2
    · exact Or.inl ⟨b, b1, b2, b3⟩
    · right
      rw [← b3, b2, show (((low (m : Int)).toNat : Nat) : Int) = low (m : Int) by omega]
  · rintro (⟨b, b1, b2, b3⟩ | q)
    · exact ⟨b, b1, by rw [hb b (by omega), b2, Bool.true_or], b3⟩
    · refine ⟨(low (m : Int)).toNat, by omega, ?_, ?_⟩
      · rw [hb _ (by omega)]
        simp
      · rw [show (((low (m : Int)).toNat : Nat) : Int) = low (m : Int) by omega]
        exact q.symm
