/-! JOINS AND TRIANGLES, BY THEIR BITS -/
theorem ybit {a : Int} (ha : 0 ≤ a ∧ a < 2147483648) {n : Nat} (hn : n < 32) : yand (yshr a (n : Int)) 1 = 1 ↔ bt a n = true := by
  rw [ytest ha (by omega), Int.toNat_natCast]
  cases bt a n <;> decide
theorem ybitZ {a x : Int} (ha : 0 ≤ a ∧ a < 2147483648) (hx : 0 ≤ x ∧ x < 32) : yand (yshr a x) 1 = 1 ↔ bt a x.toNat = true := by
  obtain ⟨n, rfl⟩ := Int.eq_ofNat_of_zero_le hx.1
  rw [Int.toNat_natCast]
  exact ybit ha (by omega)
theorem bt_al {a k : Int} (hk : 0 ≤ k ∧ k ≤ 8) (h : 0 ≤ a ∧ a ≤ al k) {i : Nat} (q : bt a i = true) : i < k.toNat := by
  rcases Nat.lt_or_ge i k.toNat with w | w
  · exact w
  · rw [bt_of_lt (n := k.toNat) (by rw [al_def] at h; omega) w] at q
    cases q
theorem al_ge {a k : Int} (hk : 0 ≤ k ∧ k ≤ 8) (ha : yR a) (h : ∀ i : Nat, bt a i = true → i < k.toNat) : 0 ≤ a ∧ a ≤ al k := by
  have q := bt_lt (a := a) (n := k.toNat) ha (by omega) (fun i h1 h2 => by
    cases hb : bt a i with
    | false => rfl
    | true => have := h i hb; omega)
  rw [al_def]
  omega
theorem bt_i32 {a : Int} {i : Nat} (q : bt a i = true) : i < 32 := by
  rcases Nat.lt_or_ge i 32 with w | w
  · exact w
  · rw [bt_big w] at q
    cases q
/-- what comes of two sets by a table -/
def JB (T : Int → Int) (n : Nat) (a b : Int) (t : Nat) : Prop := ∃ i j : Nat, i < n ∧ j < n ∧ bt a i = true ∧ bt b j = true ∧ bt (T (8 * (i : Int) + j)) t = true
def jI (T : Int → Int) (b i s : Int) : Nat → Int
  | 0 => s
  | n + 1 => yor (jI T b i s n) (if yand (yshr b (n : Int)) 1 = 1 then T (8 * i + n) else 0)
def jO (T : Int → Int) (a b : Int) (m : Nat) : Nat → Int
  | 0 => 0
  | n + 1 => if yand (yshr a (n : Int)) 1 = 1 then jI T b n (jO T a b m n) m else jO T a b m n
theorem jI_1 {T : Int → Int} {b i s x v : Int} (h : 0 ≤ x) (e : v = jI T b i s x.toNat) (hc : yand (yshr b x) 1 = 1) : yor v (T (8 * i + x)) = jI T b i s (x + 1).toNat := by
  rw [show (x + 1).toNat = x.toNat + 1 by omega]
  simp only [jI]
  rw [show ((x.toNat : Nat) : Int) = x by omega, if_pos hc, e]
theorem jI_0 {T : Int → Int} {b i s x v : Int} (h : 0 ≤ x) (e : v = jI T b i s x.toNat) (hc : yand (yshr b x) 1 ≠ 1) : yor v 0 = jI T b i s (x + 1).toNat := by
  rw [show (x + 1).toNat = x.toNat + 1 by omega]
  simp only [jI]
  rw [show ((x.toNat : Nat) : Int) = x by omega, if_neg hc, e]
theorem jO_p {T : Int → Int} {a b x v y : Int} {m : Nat} (h : 0 ≤ x) (e : v = jI T b x (jO T a b m x.toNat) y.toNat) (hy : y.toNat = m) (hc : yand (yshr a x) 1 = 1) : v = jO T a b m (x + 1).toNat := by
  rw [show (x + 1).toNat = x.toNat + 1 by omega]
  simp only [jO]
  rw [show ((x.toNat : Nat) : Int) = x by omega, if_pos hc, e, hy]
theorem jO_q {T : Int → Int} {a b x v y : Int} {m : Nat} (h : 0 ≤ x) (e : v = jI T b x (jO T a b m x.toNat) y.toNat) (hy : y = 0 ∨ yand (yshr a x) 1 = 1) (hc : yand (yshr a x) 1 ≠ 1) : v = jO T a b m (x + 1).toNat := by
  rw [show (x + 1).toNat = x.toNat + 1 by omega]
  simp only [jO]
  rw [show ((x.toNat : Nat) : Int) = x by omega, if_neg hc, e, show y = 0 from hy.resolve_right hc]
  rfl
theorem jI_rng {T : Int → Int} {b i s : Int} (hs : yR s) : ∀ n : Nat, yR (jI T b i s n)
  | 0 => hs
  | n + 1 => rng_yor _ _
theorem jO_rng {T : Int → Int} {a b : Int} {m : Nat} : ∀ n : Nat, yR (jO T a b m n)
  | 0 => by simp only [jO]; decide
  | n + 1 => by
    simp only [jO]
    split
    · exact jI_rng (jO_rng n) m
    · exact jO_rng n
theorem jI_bt {T : Int → Int} {b i s : Int} (hb : 0 ≤ b ∧ b < 2147483648) (t : Nat) : ∀ n : Nat, n ≤ 31 → (bt (jI T b i s n) t = true ↔ bt s t = true ∨ ∃ j : Nat, j < n ∧ bt b j = true ∧ bt (T (8 * i + j)) t = true)
  | 0, _ => by
    simp only [jI]
    constructor
    · exact Or.inl
    · rintro (q | ⟨j, hj, _⟩)
      · exact q
      · omega
  | n + 1, hn => by
    have ih := jI_bt (T := T) (i := i) (s := s) hb t n (by omega)
    simp only [jI]
    by_cases q : bt b n = true
    · rw [if_pos ((ybit hb (by omega)).mpr q), bt_yor, Bool.or_eq_true, ih]
      constructor
      · rintro ((w | ⟨j, h1, h2, h3⟩) | w)
        · exact Or.inl w
        · exact Or.inr ⟨j, by omega, h2, h3⟩
        · exact Or.inr ⟨n, by omega, q, w⟩
      · rintro (w | ⟨j, h1, h2, h3⟩)
        · exact Or.inl (Or.inl w)
        · by_cases e : j = n
          · subst e; exact Or.inr h3
          · exact Or.inl (Or.inr ⟨j, by omega, h2, h3⟩)
    · rw [if_neg (fun w => q ((ybit hb (by omega)).mp w)), bt_yor, Bool.or_eq_true, ih, bt_0]
      constructor
      · rintro ((w | ⟨j, h1, h2, h3⟩) | w)
        · exact Or.inl w
        · exact Or.inr ⟨j, by omega, h2, h3⟩
        · cases w
      · rintro (w | ⟨j, h1, h2, h3⟩)
        · exact Or.inl (Or.inl w)
        · by_cases e : j = n
          · subst e; exact absurd h2 q
          · exact Or.inl (Or.inr ⟨j, by omega, h2, h3⟩)
theorem jO_bt {T : Int → Int} {a b : Int} (ha : 0 ≤ a ∧ a < 2147483648) (hb : 0 ≤ b ∧ b < 2147483648) {m : Nat} (hm : m ≤ 31) (t : Nat) : ∀ n : Nat, n ≤ 31 → (bt (jO T a b m n) t = true ↔ ∃ i j : Nat, i < n ∧ j < m ∧ bt a i = true ∧ bt b j = true ∧ bt (T (8 * (i : Int) + j)) t = true)
  | 0, _ => by
    simp only [jO, bt_0]
    constructor
    · intro q; cases q
    · rintro ⟨i, j, h, _⟩; omega
  | n + 1, hn => by
    have ih := jO_bt (T := T) ha hb hm t n (by omega)
    simp only [jO]
    by_cases q : bt a n = true
    · rw [if_pos ((ybit ha (by omega)).mpr q), jI_bt hb t m hm, ih]
      constructor
      · rintro (⟨i, j, h1, h2, h3, h4, h5⟩ | ⟨j, h1, h2, h3⟩)
        · exact ⟨i, j, by omega, h2, h3, h4, h5⟩
        · exact ⟨n, j, by omega, h1, q, h2, h3⟩
      · rintro ⟨i, j, h1, h2, h3, h4, h5⟩
        by_cases e : i = n
        · subst e; exact Or.inr ⟨j, h2, h4, h5⟩
        · exact Or.inl ⟨i, j, by omega, h2, h3, h4, h5⟩
    · rw [if_neg (fun w => q ((ybit ha (by omega)).mp w)), ih]
      constructor
      · rintro ⟨i, j, h1, h2, h3, h4, h5⟩
        exact ⟨i, j, by omega, h2, h3, h4, h5⟩
      · rintro ⟨i, j, h1, h2, h3, h4, h5⟩
        by_cases e : i = n
        · subst e; exact absurd h3 q
        · exact ⟨i, j, by omega, h2, h3, h4, h5⟩
theorem JB_up {T T' : Int → Int} {k a b : Int} (hk : 1 ≤ k ∧ k ≤ 8) (ha : 0 ≤ a ∧ a ≤ al k) (hb : 0 ≤ b ∧ b ≤ al k) (e : ∀ i j : Int, 0 ≤ i → i < k → 0 ≤ j → j < k → T (8 * i + j) = T' (8 * i + j)) (t : Nat) : JB T 8 a b t ↔ JB T' k.toNat a b t := by
  constructor
  · rintro ⟨i, j, h1, h2, h3, h4, h5⟩
    have q1 := bt_al (by omega) ha h3
    have q2 := bt_al (by omega) hb h4
    exact ⟨i, j, q1, q2, h3, h4, by rw [← e i j (by omega) (by omega) (by omega) (by omega)]; exact h5⟩
  · rintro ⟨i, j, h1, h2, h3, h4, h5⟩
    exact ⟨i, j, by omega, by omega, h3, h4, by rw [e i j (by omega) (by omega) (by omega) (by omega)]; exact h5⟩
theorem jO_cg {T T' : Int → Int} {k a b : Int} (hk : 1 ≤ k ∧ k ≤ 8) (ha : 0 ≤ a ∧ a ≤ al k) (hb : 0 ≤ b ∧ b ≤ al k) (e : ∀ i j : Int, 0 ≤ i → i < k → 0 ≤ j → j < k → T (8 * i + j) = T' (8 * i + j)) : jO T a b k.toNat k.toNat = jO T' a b k.toNat k.toNat := by
  have h8 := al_le hk
  refine bt_ext (jO_rng _) (jO_rng _) (fun t ht => ?_)
  rw [Bool.eq_iff_iff, jO_bt (by omega) (by omega) (by omega) t _ (by omega), jO_bt (by omega) (by omega) (by omega) t _ (by omega)]
  constructor
  · rintro ⟨i, j, h1, h2, h3, h4, h5⟩
    exact ⟨i, j, h1, h2, h3, h4, by rw [← e i j (by omega) (by omega) (by omega) (by omega)]; exact h5⟩
  · rintro ⟨i, j, h1, h2, h3, h4, h5⟩
    exact ⟨i, j, h1, h2, h3, h4, by rw [e i j (by omega) (by omega) (by omega) (by omega)]; exact h5⟩
theorem ixP : ∀ a : Nat, a < 256 → yshl (yand (a : Int) 15) 4 = 16 * ((a % 16 : Nat) : Int) ∧ yand (a : Int) 15 = ((a % 16 : Nat) : Int) ∧ yand (a : Int) 240 = 16 * ((a / 16 : Nat) : Int) ∧ yand (yshr (a : Int) 4) 15 = ((a / 16 : Nat) : Int) := by decide +kernel
theorem ixQ : ∀ p : Nat, p < 16 → ∀ q : Nat, q < 16 → yor (16 * (p : Int)) q = 16 * (p : Int) + q ∧ yor (yor 256 (16 * (p : Int))) q = 256 + 16 * (p : Int) + q ∧ yor (yor 512 (16 * (p : Int))) q = 512 + 16 * (p : Int) + q ∧ yor (yor 768 (16 * (p : Int))) q = 768 + 16 * (p : Int) + q := by decide +kernel
theorem bt_lo : ∀ a : Nat, a < 256 → ∀ i : Nat, i < 4 → bt ((a % 16 : Nat) : Int) i = bt (a : Int) i ∧ bt ((a / 16 : Nat) : Int) i = bt (a : Int) (4 + i) := by decide +kernel
theorem rest_bits : ∀ x : Nat, x < 16 → x ≠ 0 → ∀ i : Nat, i < 4 → bt (x : Int) i = (bt (yand (x : Int) ((x : Int) - 1)) i || bt ((x : Int) - yand (x : Int) ((x : Int) - 1)) i) := by decide +kernel
theorem one_bits : ∀ x : Nat, x < 16 → x ≠ 0 → yand (x : Int) ((x : Int) - 1) = 0 → ∀ i : Nat, i < 4 → bt (x : Int) i = decide (i = (low (x : Int)).toNat) := by decide +kernel
/-- a quarter of the table of half joins -/
def HJp (M : yM) (x0 : Nat) (lh rh l0 r0 : Int) : Prop := ∀ l r : Int, 1 ≤ l → l < 16 → 1 ≤ r → r < 16 → (l < l0 ∨ l = l0 ∧ r < r0) → ∀ t : Nat, bt (ld M (x0 + 4) (512 * lh + 256 * rh + 16 * l + r)) t = true ↔ ∃ i j : Nat, i < 4 ∧ j < 4 ∧ bt l i = true ∧ bt r j = true ∧ bt (ld M (x0 + 2) (8 * (4 * lh + i) + (4 * rh + j))) t = true
def HJl (M : yM) (x0 : Nat) (lh rh : Int) : Prop := HJp M x0 lh rh 16 1
theorem HJp.s {M M' : yM} {x0 : Nat} {lh rh l r v : Int} (h : HJp M x0 lh rh l r) (hl : 1 ≤ l ∧ l < 16) (hr : 1 ≤ r ∧ r < 16) (e : M' = put M (x0 + 4) (512 * lh + 256 * rh + 16 * l + r) v) (hv : yR v) (hb : ∀ t : Nat, bt v t = true ↔ ∃ i j : Nat, i < 4 ∧ j < 4 ∧ bt l i = true ∧ bt r j = true ∧ bt (ld M (x0 + 2) (8 * (4 * lh + i) + (4 * rh + j))) t = true) : HJp M' x0 lh rh l (r + 1) := fun l' r' h1 h2 h3 h4 h5 t => by
  have e2 : ∀ j, ld M' (x0 + 2) j = ld M (x0 + 2) j := fun j => by rw [e, ld_putne (Or.inl (by omega))]
  simp only [e2]
  by_cases q : l' = l ∧ r' = r
  · rw [q.1, q.2, e, ld_same hv]
    exact hb t
  · rw [e, ld_putne (Or.inr (by omega))]
    exact h l' r' h1 h2 h3 h4 (by omega) t
theorem HJp.row {M : yM} {x0 : Nat} {lh rh l r : Int} (h : HJp M x0 lh rh l r) (hr : 16 ≤ r) : HJp M x0 lh rh (l + 1) 1 := fun l' r' h1 h2 h3 h4 h5 => h l' r' h1 h2 h3 h4 (by omega)
theorem HJp.end {M : yM} {x0 : Nat} {lh rh l r : Int} (h : HJp M x0 lh rh l r) (hl : 16 ≤ l) : HJl M x0 lh rh := fun l' r' h1 h2 h3 h4 h5 => h l' r' h1 h2 h3 h4 (by omega)
theorem HJp.fr {W : Nat → Int → Prop} {M M' : yM} {x0 : Nat} {lh rh l r : Int} (h : HJp M x0 lh rh l r) (f : fr W M M') (h2 : ∀ j, ¬ W (x0 + 2) j) (h4 : ∀ j, 512 * lh + 256 * rh ≤ j → j < 512 * lh + 256 * rh + 256 → ¬ W (x0 + 4) j) : HJp M' x0 lh rh l r := fun l' r' a1 a2 a3 a4 a5 t => by
  have e2 : ∀ j, ld M' (x0 + 2) j = ld M (x0 + 2) j := fun j => f.ld (h2 j)
  simp only [e2]
  rw [f.ld (h4 _ (by omega) (by omega))]
  exact h l' r' a1 a2 a3 a4 a5 t
theorem HJl.fr {W : Nat → Int → Prop} {M M' : yM} {x0 : Nat} {lh rh : Int} (h : HJl M x0 lh rh) (f : fr W M M') (h2 : ∀ j, ¬ W (x0 + 2) j) (h4 : ∀ j, 512 * lh + 256 * rh ≤ j → j < 512 * lh + 256 * rh + 256 → ¬ W (x0 + 4) j) : HJl M' x0 lh rh := HJp.fr h f h2 h4
theorem hj_a {M : yM} {x0 : Nat} {lh rh l r : Int} (h : HJp M x0 lh rh l r) (hl : 1 ≤ l ∧ l < 16) (hr : 1 ≤ r ∧ r < 16) (hne : yand l (l - 1) ≠ 0) (hle : 0 ≤ yand l (l - 1) ∧ yand l (l - 1) ≤ l - 1) (t : Nat) : bt (yor (ld M (x0 + 4) (512 * lh + 256 * rh + 16 * yand l (l - 1) + r)) (ld M (x0 + 4) (512 * lh + 256 * rh + 16 * (l - yand l (l - 1)) + r))) t = true ↔ ∃ i j : Nat, i < 4 ∧ j < 4 ∧ bt l i = true ∧ bt r j = true ∧ bt (ld M (x0 + 2) (8 * (4 * lh + i) + (4 * rh + j))) t = true := by
  rw [bt_yor, Bool.or_eq_true, h (yand l (l - 1)) r (by omega) (by omega) hr.1 hr.2 (by omega) t, h (l - yand l (l - 1)) r (by omega) (by omega) hr.1 hr.2 (by omega) t]
  obtain ⟨n, rfl⟩ := Int.eq_ofNat_of_zero_le (show 0 ≤ l by omega)
  have hb := rest_bits n (by omega) (by omega)
  constructor
  · rintro (⟨i, j, h1, h2, h3, h4, h5⟩ | ⟨i, j, h1, h2, h3, h4, h5⟩)
    · exact ⟨i, j, h1, h2, by rw [hb i h1, h3, Bool.true_or], h4, h5⟩
    · exact ⟨i, j, h1, h2, by rw [hb i h1, h3, Bool.or_true], h4, h5⟩
  · rintro ⟨i, j, h1, h2, h3, h4, h5⟩
    rw [hb i h1, Bool.or_eq_true] at h3
    rcases h3 with h3 | h3
    · exact Or.inl ⟨i, j, h1, h2, h3, h4, h5⟩
    · exact Or.inr ⟨i, j, h1, h2, h3, h4, h5⟩
theorem hj_b {M : yM} {x0 : Nat} {lh rh l r : Int} (h : HJp M x0 lh rh l r) (hl : 1 ≤ l ∧ l < 16) (hr : 1 ≤ r ∧ r < 16) (hne : yand r (r - 1) ≠ 0) (hle : 0 ≤ yand r (r - 1) ∧ yand r (r - 1) ≤ r - 1) (t : Nat) : bt (yor (ld M (x0 + 4) (512 * lh + 256 * rh + 16 * l + yand r (r - 1))) (ld M (x0 + 4) (512 * lh + 256 * rh + 16 * l + r - yand r (r - 1)))) t = true ↔ ∃ i j : Nat, i < 4 ∧ j < 4 ∧ bt l i = true ∧ bt r j = true ∧ bt (ld M (x0 + 2) (8 * (4 * lh + i) + (4 * rh + j))) t = true := by
  rw [show 512 * lh + 256 * rh + 16 * l + r - yand r (r - 1) = 512 * lh + 256 * rh + 16 * l + (r - yand r (r - 1)) by omega, bt_yor, Bool.or_eq_true, h l (yand r (r - 1)) hl.1 hl.2 (by omega) (by omega) (by omega) t, h l (r - yand r (r - 1)) hl.1 hl.2 (by omega) (by omega) (by omega) t]
  obtain ⟨n, rfl⟩ := Int.eq_ofNat_of_zero_le (show 0 ≤ r by omega)
  have hb := rest_bits n (by omega) (by omega)
  constructor
  · rintro (⟨i, j, h1, h2, h3, h4, h5⟩ | ⟨i, j, h1, h2, h3, h4, h5⟩)
    · exact ⟨i, j, h1, h2, h3, by rw [hb j h2, h4, Bool.true_or], h5⟩
    · exact ⟨i, j, h1, h2, h3, by rw [hb j h2, h4, Bool.or_true], h5⟩
  · rintro ⟨i, j, h1, h2, h3, h4, h5⟩
    rw [hb j h2, Bool.or_eq_true] at h4
    rcases h4 with h4 | h4
    · exact Or.inl ⟨i, j, h1, h2, h3, h4, h5⟩
    · exact Or.inr ⟨i, j, h1, h2, h3, h4, h5⟩
theorem hj_c {M : yM} {x0 : Nat} {lh rh l r : Int} (hl : 1 ≤ l ∧ l < 16) (hr : 1 ≤ r ∧ r < 16) (hl0 : yand l (l - 1) = 0) (hr0 : yand r (r - 1) = 0) (h4 : 0 ≤ low l ∧ low l < 4) (h5 : 0 ≤ low r ∧ low r < 4) (t : Nat) : bt (ld M (x0 + 2) (8 * (4 * lh + low l) + 4 * rh + low r)) t = true ↔ ∃ i j : Nat, i < 4 ∧ j < 4 ∧ bt l i = true ∧ bt r j = true ∧ bt (ld M (x0 + 2) (8 * (4 * lh + i) + (4 * rh + j))) t = true := by
  rw [show 8 * (4 * lh + low l) + 4 * rh + low r = 8 * (4 * lh + low l) + (4 * rh + low r) by omega]
  obtain ⟨n, rfl⟩ := Int.eq_ofNat_of_zero_le (show 0 ≤ l by omega)
  obtain ⟨m, rfl⟩ := Int.eq_ofNat_of_zero_le (show 0 ≤ r by omega)
  have hb := one_bits n (by omega) (by omega) hl0
  have hc := one_bits m (by omega) (by omega) hr0
  constructor
  · intro q
    refine ⟨(low (n : Int)).toNat, (low (m : Int)).toNat, by omega, by omega, ?_, ?_, ?_⟩
    · rw [hb _ (by omega)]; simp
    · rw [hc _ (by omega)]; simp
    · rw [show (((low (n : Int)).toNat : Nat) : Int) = low (n : Int) by omega, show (((low (m : Int)).toNat : Nat) : Int) = low (m : Int) by omega]
      exact q
  · rintro ⟨i, j, h1, h2, h3, h6, h7⟩
    rw [hb i h1, decide_eq_true_eq] at h3
    rw [hc j h2, decide_eq_true_eq] at h6
    rw [h3, h6, show (((low (n : Int)).toNat : Nat) : Int) = low (n : Int) by omega, show (((low (m : Int)).toNat : Nat) : Int) = low (m : Int) by omega] at h7
    exact h7
/-- the half joins that a table of so many kinds wants -/
def HJA (M : yM) (x0 : Nat) : Prop := ∀ lh rh : Int, 0 ≤ lh → 0 ≤ rh → (lh = 0 ∧ rh = 0 ∨ 4 < ld M x0 0 ∧ lh ≤ 1 ∧ rh ≤ 1) → HJl M x0 lh rh
def HZ (M : yM) : Prop := ∀ j : Int, 0 ≤ j → j < 1024 → (j % 256 < 16 ∨ j % 16 = 0) → ld M 5 j = 0
theorem HZ.fr {W : Nat → Int → Prop} {M M' : yM} (h : HZ M) (f : fr W M M') (hw : ∀ j, W 5 j → 17 ≤ j % 256 ∧ j % 16 ≠ 0) : HZ M' := fun j h1 h2 h3 => by
  rw [f.ld (fun q => by have := hw j q; omega)]
  exact h j h1 h2 h3
theorem HJA.fr {W : Nat → Int → Prop} {M M' : yM} {x0 : Nat} (h : HJA M x0) (f : fr W M M') (h0 : ¬ W x0 0) (h2 : ∀ j, ¬ W (x0 + 2) j) (h4 : ∀ j, ¬ W (x0 + 4) j) : HJA M' x0 := fun lh rh a1 a2 a3 => by
  rw [f.ld h0] at a3
  exact (h lh rh a1 a2 a3).fr f h2 (fun j _ _ => h4 j)
theorem hj_q {M : yM} (h : HJA M 1) (hz : HZ M) {lh rh p q : Int} (h1 : 0 ≤ lh) (h2 : 0 ≤ rh) (h3 : lh = 0 ∧ rh = 0 ∨ lh ≤ 1 ∧ rh ≤ 1 ∧ (4 < ld M 1 0 ∨ (lh = 1 → p = 0) ∧ (rh = 1 → q = 0))) (hp : 0 ≤ p ∧ p < 16) (hq : 0 ≤ q ∧ q < 16) (t : Nat) : bt (ld M 5 (512 * lh + 256 * rh + 16 * p + q)) t = true ↔ ∃ i j : Nat, i < 4 ∧ j < 4 ∧ bt p i = true ∧ bt q j = true ∧ bt (ld M 3 (8 * (4 * lh + i) + (4 * rh + j))) t = true := by
  by_cases z : p = 0 ∨ q = 0
  · rw [hz _ (by omega) (by omega) (by omega), bt_0]
    constructor
    · intro w; cases w
    · rintro ⟨i, j, _, _, a3, a4, _⟩
      rcases z with z | z
      · rw [z, bt_0] at a3; cases a3
      · rw [z, bt_0] at a4; cases a4
  · exact h lh rh h1 h2 (by omega) p q (by omega) hp.2 (by omega) hq.2 (by omega) t
theorem jn_bt {M : yM} (h : HJA M 1) (hz : HZ M) (hk : 1 ≤ ld M 1 0 ∧ ld M 1 0 ≤ 8) {a b : Int} (ha : 0 ≤ a ∧ a ≤ al (ld M 1 0)) (hb : 0 ≤ b ∧ b ≤ al (ld M 1 0)) (t : Nat) : bt (jn M a b) t = true ↔ JB (ld M 3) 8 a b t := by
  have h8 := al_le hk
  have s4 : ld M 1 0 ≤ 4 → al (ld M 1 0) ≤ 15 := fun q => by
    obtain ⟨n, e⟩ := Int.eq_ofNat_of_zero_le (show 0 ≤ ld M 1 0 by omega)
    rw [e]
    have k4 : ∀ n : Nat, n ≤ 4 → al (n : Int) ≤ 15 := by decide
    exact k4 n (by omega)
  obtain ⟨x, rfl⟩ := Int.eq_ofNat_of_zero_le ha.1
  obtain ⟨y, rfl⟩ := Int.eq_ofNat_of_zero_le hb.1
  have s3 : 4 < ld M 1 0 ∨ (x / 16 = 0 ∧ y / 16 = 0) := by
    rcases Int.lt_or_le 4 (ld M 1 0) with w | w
    · exact Or.inl w
    · have := s4 w
      exact Or.inr ⟨by omega, by omega⟩
  have z1 := hj_q h hz (lh := 0) (rh := 0) (p := ((x % 16 : Nat) : Int)) (q := ((y % 16 : Nat) : Int)) (by decide) (by decide) (Or.inl ⟨rfl, rfl⟩) (by omega) (by omega) t
  have z2 := hj_q h hz (lh := 0) (rh := 1) (p := ((x % 16 : Nat) : Int)) (q := ((y / 16 : Nat) : Int)) (by decide) (by decide) (Or.inr ⟨by decide, by decide, s3.elim Or.inl (fun w => Or.inr ⟨fun q => absurd q (by decide), fun _ => by rw [w.2]; rfl⟩)⟩) (by omega) (by omega) t
  have z3 := hj_q h hz (lh := 1) (rh := 0) (p := ((x / 16 : Nat) : Int)) (q := ((y % 16 : Nat) : Int)) (by decide) (by decide) (Or.inr ⟨by decide, by decide, s3.elim Or.inl (fun w => Or.inr ⟨fun _ => by rw [w.1]; rfl, fun q => absurd q (by decide)⟩)⟩) (by omega) (by omega) t
  have z4 := hj_q h hz (lh := 1) (rh := 1) (p := ((x / 16 : Nat) : Int)) (q := ((y / 16 : Nat) : Int)) (by decide) (by decide) (Or.inr ⟨by decide, by decide, s3.elim Or.inl (fun w => Or.inr ⟨fun _ => by rw [w.1]; rfl, fun _ => by rw [w.2]; rfl⟩)⟩) (by omega) (by omega) t
  obtain ⟨p1, p2, p3, p4⟩ := ixP x (by omega)
  obtain ⟨q1, q2, q3, q4⟩ := ixP y (by omega)
  have bx := bt_lo x (by omega)
  have by_ := bt_lo y (by omega)
  have e1 := ixQ (x % 16) (by omega) (y % 16) (by omega)
  have e2 := ixQ (x % 16) (by omega) (y / 16) (by omega)
  have e3 := ixQ (x / 16) (by omega) (y % 16) (by omega)
  have e4 := ixQ (x / 16) (by omega) (y / 16) (by omega)
  unfold jn
  rw [p1, q2, p3, q4, e1.1, e2.2.1, e3.2.2.1, e4.2.2.2, bt_yor, bt_yor, bt_yor, Bool.or_eq_true, Bool.or_eq_true, Bool.or_eq_true]
  rw [show 512 * (0 : Int) + 256 * 0 + 16 * ((x % 16 : Nat) : Int) + ((y % 16 : Nat) : Int) = 16 * ((x % 16 : Nat) : Int) + ((y % 16 : Nat) : Int) by omega] at z1
  rw [show 512 * (0 : Int) + 256 * 1 + 16 * ((x % 16 : Nat) : Int) + ((y / 16 : Nat) : Int) = 256 + 16 * ((x % 16 : Nat) : Int) + ((y / 16 : Nat) : Int) by omega] at z2
  rw [show 512 * (1 : Int) + 256 * 0 + 16 * ((x / 16 : Nat) : Int) + ((y % 16 : Nat) : Int) = 512 + 16 * ((x / 16 : Nat) : Int) + ((y % 16 : Nat) : Int) by omega] at z3
  rw [show 512 * (1 : Int) + 256 * 1 + 16 * ((x / 16 : Nat) : Int) + ((y / 16 : Nat) : Int) = 768 + 16 * ((x / 16 : Nat) : Int) + ((y / 16 : Nat) : Int) by omega] at z4
  rw [z1, z2, z3, z4]
  constructor
  · rintro (((⟨i, j, h1, h2, h3, h4, h5⟩ | ⟨i, j, h1, h2, h3, h4, h5⟩) | ⟨i, j, h1, h2, h3, h4, h5⟩) | ⟨i, j, h1, h2, h3, h4, h5⟩)
    · exact ⟨i, j, by omega, by omega, by rw [← (bx i h1).1]; exact h3, by rw [← (by_ j h2).1]; exact h4, by rw [show 8 * (i : Int) + j = 8 * (4 * 0 + i) + (4 * 0 + j) by omega]; exact h5⟩
    · exact ⟨i, 4 + j, by omega, by omega, by rw [← (bx i h1).1]; exact h3, by rw [← (by_ j h2).2]; exact h4, by rw [show 8 * (i : Int) + ((4 + j : Nat) : Int) = 8 * (4 * 0 + i) + (4 * 1 + j) by omega]; exact h5⟩
    · exact ⟨4 + i, j, by omega, by omega, by rw [← (bx i h1).2]; exact h3, by rw [← (by_ j h2).1]; exact h4, by rw [show 8 * ((4 + i : Nat) : Int) + (j : Int) = 8 * (4 * 1 + i) + (4 * 0 + j) by omega]; exact h5⟩
    · exact ⟨4 + i, 4 + j, by omega, by omega, by rw [← (bx i h1).2]; exact h3, by rw [← (by_ j h2).2]; exact h4, by rw [show 8 * ((4 + i : Nat) : Int) + ((4 + j : Nat) : Int) = 8 * (4 * 1 + i) + (4 * 1 + j) by omega]; exact h5⟩
  · rintro ⟨i, j, h1, h2, h3, h4, h5⟩
    by_cases qi : i < 4
    · by_cases qj : j < 4
      · exact Or.inl (Or.inl (Or.inl ⟨i, j, qi, qj, by rw [(bx i qi).1]; exact h3, by rw [(by_ j qj).1]; exact h4, by rw [show 8 * (4 * 0 + (i : Int)) + (4 * 0 + (j : Int)) = 8 * (i : Int) + j by omega]; exact h5⟩))
      · exact Or.inl (Or.inl (Or.inr ⟨i, j - 4, qi, by omega, by rw [(bx i qi).1]; exact h3, by rw [(by_ (j - 4) (by omega)).2, show 4 + (j - 4) = j by omega]; exact h4, by rw [show 8 * (4 * 0 + (i : Int)) + (4 * 1 + ((j - 4 : Nat) : Int)) = 8 * (i : Int) + j by omega]; exact h5⟩))
    · by_cases qj : j < 4
      · exact Or.inl (Or.inr ⟨i - 4, j, by omega, qj, by rw [(bx (i - 4) (by omega)).2, show 4 + (i - 4) = i by omega]; exact h3, by rw [(by_ j qj).1]; exact h4, by rw [show 8 * (4 * 1 + ((i - 4 : Nat) : Int)) + (4 * 0 + (j : Int)) = 8 * (i : Int) + j by omega]; exact h5⟩)
      · exact Or.inr ⟨i - 4, j - 4, by omega, by omega, by rw [(bx (i - 4) (by omega)).2, show 4 + (i - 4) = i by omega]; exact h3, by rw [(by_ (j - 4) (by omega)).2, show 4 + (j - 4) = j by omega]; exact h4, by rw [show 8 * (4 * 1 + ((i - 4 : Nat) : Int)) + (4 * 1 + ((j - 4 : Nat) : Int)) = 8 * (i : Int) + j by omega]; exact h5⟩
/-- both joins are one -/
theorem jn_jO {M : yM} {T : Int → Int} (h : HJA M 1) (hz : HZ M) (hk : 1 ≤ ld M 1 0 ∧ ld M 1 0 ≤ 8) {a b : Int} (ha : 0 ≤ a ∧ a ≤ al (ld M 1 0)) (hb : 0 ≤ b ∧ b ≤ al (ld M 1 0)) (e : ∀ i j : Int, 0 ≤ i → i < ld M 1 0 → 0 ≤ j → j < ld M 1 0 → ld M 3 (8 * i + j) = T (8 * i + j)) : jn M a b = jO T a b (ld M 1 0).toNat (ld M 1 0).toNat := by
  have h8 := al_le hk
  refine bt_ext (by unfold jn; exact rng_yor _ _) (jO_rng _) (fun t ht => ?_)
  rw [Bool.eq_iff_iff, jn_bt h hz hk ha hb, JB_up hk ha hb e, jO_bt (by omega) (by omega) (by omega) t _ (by omega)]
  rfl
/-! TRIANGLES: WHAT THEY ARE ALIKE -/
abbrev tb (T : Int → Int) (a b c : Int) : Bool := bt (T (8 * a + b)) c.toNat
/-- seen from its other points a triangle is the same -/
def SY (T f : Int → Int) (k : Int) : Prop := ∀ a b c : Int, 0 ≤ a → a < k → 0 ≤ b → b < k → 0 ≤ c → c < k → tb T a b c = tb T c (f b) a ∧ tb T a b c = tb T (f a) c b
def TBd (T : Int → Int) (k : Int) : Prop := ∀ a b : Int, 0 ≤ a → a < k → 0 ≤ b → b < k → 0 ≤ T (8 * a + b) ∧ T (8 * a + b) ≤ al k
theorem SY.cg {T T' f f' : Int → Int} {k : Int} (h : SY T f k) (hI : IV f k) (e : ∀ a b : Int, 0 ≤ a → a < k → 0 ≤ b → b < k → T' (8 * a + b) = T (8 * a + b)) (e' : ∀ a, 0 ≤ a → a < k → f' a = f a) : SY T' f' k := fun a b c a1 a2 b1 b2 c1 c2 => by
  have ha := (hI a a1 a2).1
  have hb := (hI b b1 b2).1
  have := h a b c a1 a2 b1 b2 c1 c2
  unfold tb at this ⊢
  rw [e' a a1 a2, e' b b1 b2, e a b a1 a2 b1 b2, e c (f b) c1 c2 hb.1 hb.2, e (f a) c ha.1 ha.2 c1 c2]
  exact this
theorem TBd.cg {T T' : Int → Int} {k : Int} (h : TBd T k) (e : ∀ a b : Int, 0 ≤ a → a < k → 0 ≤ b → b < k → T' (8 * a + b) = T (8 * a + b)) : TBd T' k := fun a b a1 a2 b1 b2 => by
  rw [e a b a1 a2 b1 b2]
  exact h a b a1 a2 b1 b2
/-- all triangles may be -/
def tv (f : Int → Int) (k i j : Int) : Int := if i = 0 then yshl 1 j else if j = 0 then yshl 1 i else if j = f i then yor (yand (al k) (-2)) 1 else yand (al k) (-2)
theorem bt_m2 : ∀ c : Nat, c < 32 → bt (-2) c = decide (c ≠ 0) := by decide +kernel
theorem tv_bt {f : Int → Int} {k i j : Int} (hk : 1 ≤ k ∧ k ≤ 8) (hi : 0 ≤ i ∧ i < k) (hj : 0 ≤ j ∧ j < k) {c : Nat} (hc : c < 32) : bt (tv f k i j) c = true ↔ (if i = 0 then (c : Int) = j else if j = 0 then (c : Int) = i else (c : Int) < k ∧ (c ≠ 0 ∨ j = f i)) := by
  unfold tv
  split
  · rw [bt_bit (by omega), decide_eq_true_eq]
    omega
  · split
    · rw [bt_bit (by omega), decide_eq_true_eq]
      omega
    · split
      · rw [bt_yor, bt_yand, bt_1, bt_m2 c hc, al_def, al_bt k.toNat (by omega) c hc]
        simp only [Bool.or_eq_true, Bool.and_eq_true, decide_eq_true_eq]
        omega
      · rw [bt_yand, bt_m2 c hc, al_def, al_bt k.toNat (by omega) c hc]
        simp only [Bool.and_eq_true, decide_eq_true_eq]
        omega
theorem tv_rng (f : Int → Int) (k i j : Int) : yR (tv f k i j) := by
  unfold tv
  split
  · exact rng_yshl _ _
  · split
    · exact rng_yshl _ _
    · split
      · exact rng_yor _ _
      · exact rng_yand _ _
theorem tv_bd {f : Int → Int} {k i j : Int} (hk : 1 ≤ k ∧ k ≤ 8) (hi : 0 ≤ i ∧ i < k) (hj : 0 ≤ j ∧ j < k) : 0 ≤ tv f k i j ∧ tv f k i j ≤ al k :=
  al_ge (by omega) (tv_rng _ _ _ _) (fun c q => by
    have w := (tv_bt hk hi hj (bt_i32 q)).mp q
    split at w
    · omega
    · split at w
      · omega
      · omega)
theorem SY.opn {T f : Int → Int} {k : Int} (hk : 1 ≤ k ∧ k ≤ 8) (hI : IV f k) (h0 : f 0 = 0) (e : ∀ a b : Int, 0 ≤ a → a < k → 0 ≤ b → b < k → T (8 * a + b) = tv f k a b) : SY T f k := fun a b c a1 a2 b1 b2 c1 c2 => by
  have ha := hI a a1 a2
  have hb := hI b b1 b2
  have hc := hI c c1 c2
  have za : f a = 0 ↔ a = 0 := ⟨fun q => by rw [← ha.2, q, h0], fun q => by rw [q, h0]⟩
  have zb : f b = 0 ↔ b = 0 := ⟨fun q => by rw [← hb.2, q, h0], fun q => by rw [q, h0]⟩
  have ab : b = f a ↔ f b = a := ⟨fun q => by rw [q, ha.2], fun q => by rw [← q, hb.2]⟩
  have bc : f b = f c ↔ b = c := ⟨fun q => by rw [← hb.2, q, hc.2], fun q => by rw [q]⟩
  have ac : c = f (f a) ↔ c = a := by rw [ha.2]
  have ec : ((c.toNat : Nat) : Int) = c := by omega
  have ea : ((a.toNat : Nat) : Int) = a := by omega
  have eb : ((b.toNat : Nat) : Int) = b := by omega
  unfold tb
  rw [e a b a1 a2 b1 b2, e c (f b) c1 c2 hb.1.1 hb.1.2, e (f a) c ha.1.1 ha.1.2 c1 c2]
  have t1 := tv_bt (f := f) hk ⟨a1, a2⟩ ⟨b1, b2⟩ (c := c.toNat) (by omega)
  have t2 := tv_bt (f := f) hk ⟨c1, c2⟩ hb.1 (c := a.toNat) (by omega)
  have t3 := tv_bt (f := f) hk ha.1 ⟨c1, c2⟩ (c := b.toNat) (by omega)
  rw [ec] at t1
  rw [ea] at t2
  rw [eb] at t3
  refine (fun (w : (_ ↔ _) ∧ (_ ↔ _)) => ⟨Bool.eq_iff_iff.mpr (t1.trans (w.1.trans t2.symm)), Bool.eq_iff_iff.mpr (t1.trans (w.2.trans t3.symm))⟩) ?_
  by_cases qa : a = 0
  · subst qa
    rw [if_pos rfl, if_pos h0]
    by_cases qc : c = 0
    · rw [if_pos qc]; omega
    · rw [if_neg qc]
      by_cases qb : f b = 0
      · rw [if_pos qb]; omega
      · rw [if_neg qb]; omega
  · rw [if_neg qa, if_neg (fun q => qa (za.mp q))]
    by_cases qb : b = 0
    · have q0 : f b = 0 := zb.mpr qb
      rw [if_pos qb, if_pos q0]
      by_cases qc : c = 0
      · rw [if_pos qc, if_pos qc]; omega
      · rw [if_neg qc, if_neg qc]; omega
    · rw [if_neg qb, if_neg (fun q => qb (zb.mp q))]
      by_cases qc : c = 0
      · rw [if_pos qc, if_pos qc]; omega
      · rw [if_neg qc, if_neg qc]; omega
/-- a triangle told -/
def sbc (x c is : Int) : Int := if is = 1 then yor x (yshl 1 c) else yand x (yxor (yshl 1 c) (-1))
def sbm (x c is : Int) : Int := yor (yand x (yxor (yshl 1 c) (-1))) (yshl is c)
theorem sbc_rng (x c is : Int) : yR (sbc x c is) := by
  unfold sbc
  split
  · exact rng_yor _ _
  · exact rng_yand _ _
theorem sbc_bt {x c is : Int} (hc : 0 ≤ c ∧ c < 8) {t : Nat} (ht : t < 32) : bt (sbc x c is) t = if (t : Int) = c then decide (is = 1) else bt x t := by
  unfold sbc
  by_cases q : is = 1
  · rw [if_pos q, bt_yor, bt_bit (by omega)]
    by_cases w : (t : Int) = c
    · rw [if_pos w, decide_eq_true q, decide_eq_true (show t = c.toNat by omega), Bool.or_true]
    · rw [if_neg w, decide_eq_false (show ¬ t = c.toNat by omega), Bool.or_false]
  · rw [if_neg q, bt_yand, bt_not _ ht, bt_bit (by omega)]
    by_cases w : (t : Int) = c
    · rw [if_pos w, decide_eq_false q, decide_eq_true (show t = c.toNat by omega)]; simp
    · rw [if_neg w, decide_eq_false (show ¬ t = c.toNat by omega)]; simp
theorem sbm_eq {x c is : Int} (hc : 0 ≤ c ∧ c < 8) (hi : is = 0 ∨ is = 1) : sbm x c is = sbc x c is := by
  refine bt_ext (rng_yor _ _) (sbc_rng _ _ _) (fun t ht => ?_)
  rw [sbc_bt hc ht]
  unfold sbm
  rw [bt_yor, bt_yand, bt_not _ ht, bt_bit (by omega)]
  rcases hi with hi | hi
  · rw [hi, yshl_0' hc, bt_0, Bool.or_false]
    by_cases w : (t : Int) = c
    · rw [if_pos w, decide_eq_true (show t = c.toNat by omega)]; simp
    · rw [if_neg w, decide_eq_false (show ¬ t = c.toNat by omega)]; simp
  · rw [hi, bt_bit (by omega)]
    by_cases w : (t : Int) = c
    · rw [if_pos w, decide_eq_true (show t = c.toNat by omega)]; simp
    · rw [if_neg w, decide_eq_false (show ¬ t = c.toNat by omega)]; simp
def st1 (T : Int → Int) (a b c is : Int) : Int → Int := fun j => if j = 8 * a + b then sbc (T j) c is else T j
def st6 (T f : Int → Int) (a b c is : Int) : Int → Int := st1 (st1 (st1 (st1 (st1 (st1 T a b c is) c (f b) a is) (f a) c b is) b (f c) (f a) is) (f c) a (f b) is) (f b) (f a) (f c) is
theorem st1_bt {T : Int → Int} {a b c is p q : Int} (hb : 0 ≤ b ∧ b < 8) (hc : 0 ≤ c ∧ c < 8) (hq : 0 ≤ q ∧ q < 8) {t : Nat} (ht : t < 32) : bt (st1 T a b c is (8 * p + q)) t = if p = a ∧ q = b ∧ (t : Int) = c then decide (is = 1) else bt (T (8 * p + q)) t := by
  unfold st1
  by_cases w : 8 * p + q = 8 * a + b
  · rw [if_pos w, sbc_bt hc ht]
    by_cases v : (t : Int) = c
    · rw [if_pos v, if_pos ⟨by omega, by omega, v⟩]
    · rw [if_neg v, if_neg (fun u => v u.2.2)]
  · rw [if_neg w, if_neg (by omega)]
def O6 (f : Int → Int) (a b c p q r : Int) : Prop := (p = f b ∧ q = f a ∧ r = f c) ∨ (p = f c ∧ q = a ∧ r = f b) ∨ (p = b ∧ q = f c ∧ r = f a) ∨ (p = f a ∧ q = c ∧ r = b) ∨ (p = c ∧ q = f b ∧ r = a) ∨ (p = a ∧ q = b ∧ r = c)
theorem O6.rho {f : Int → Int} {k a b c p q r : Int} (hI : IV f k) (ha : 0 ≤ a ∧ a < k) (hb : 0 ≤ b ∧ b < k) (hc : 0 ≤ c ∧ c < k) (h : O6 f a b c p q r) : O6 f a b c r (f q) p := by
  have fa := (hI a ha.1 ha.2).2
  have fb := (hI b hb.1 hb.2).2
  have fc := (hI c hc.1 hc.2).2
  unfold O6
  rcases h with ⟨rfl, rfl, rfl⟩ | ⟨rfl, rfl, rfl⟩ | ⟨rfl, rfl, rfl⟩ | ⟨rfl, rfl, rfl⟩ | ⟨rfl, rfl, rfl⟩ | ⟨rfl, rfl, rfl⟩
  · exact Or.inr (Or.inl ⟨rfl, fa, rfl⟩)
  · exact Or.inl ⟨rfl, rfl, rfl⟩
  · exact Or.inr (Or.inr (Or.inr (Or.inl ⟨rfl, fc, rfl⟩)))
  · exact Or.inr (Or.inr (Or.inl ⟨rfl, rfl, rfl⟩))
  · exact Or.inr (Or.inr (Or.inr (Or.inr (Or.inr ⟨rfl, fb, rfl⟩))))
  · exact Or.inr (Or.inr (Or.inr (Or.inr (Or.inl ⟨rfl, rfl, rfl⟩))))
theorem O6.sig {f : Int → Int} {k a b c p q r : Int} (hI : IV f k) (ha : 0 ≤ a ∧ a < k) (hb : 0 ≤ b ∧ b < k) (hc : 0 ≤ c ∧ c < k) (h : O6 f a b c p q r) : O6 f a b c (f p) r q := by
  have fa := (hI a ha.1 ha.2).2
  have fb := (hI b hb.1 hb.2).2
  have fc := (hI c hc.1 hc.2).2
  unfold O6
  rcases h with ⟨rfl, rfl, rfl⟩ | ⟨rfl, rfl, rfl⟩ | ⟨rfl, rfl, rfl⟩ | ⟨rfl, rfl, rfl⟩ | ⟨rfl, rfl, rfl⟩ | ⟨rfl, rfl, rfl⟩
  · exact Or.inr (Or.inr (Or.inl ⟨fb, rfl, rfl⟩))
  · exact Or.inr (Or.inr (Or.inr (Or.inr (Or.inl ⟨fc, rfl, rfl⟩))))
  · exact Or.inl ⟨rfl, rfl, rfl⟩
  · exact Or.inr (Or.inr (Or.inr (Or.inr (Or.inr ⟨fa, rfl, rfl⟩))))
  · exact Or.inr (Or.inl ⟨rfl, rfl, rfl⟩)
  · exact Or.inr (Or.inr (Or.inr (Or.inl ⟨rfl, rfl, rfl⟩)))
theorem st6_bt {T f : Int → Int} {k a b c is p q : Int} (hk : k ≤ 8) (hI : IV f k) (ha : 0 ≤ a ∧ a < k) (hb : 0 ≤ b ∧ b < k) (hc : 0 ≤ c ∧ c < k) (hq : 0 ≤ q ∧ q < 8) {t : Nat} (ht : t < 32) : (O6 f a b c p q t → bt (st6 T f a b c is (8 * p + q)) t = decide (is = 1)) ∧ (¬ O6 f a b c p q t → bt (st6 T f a b c is (8 * p + q)) t = bt (T (8 * p + q)) t) := by
  have fa := (hI a ha.1 ha.2).1
  have fb := (hI b hb.1 hb.2).1
  have fc := (hI c hc.1 hc.2).1
  unfold st6 O6
  rw [st1_bt (by omega) (by omega) hq ht, st1_bt (by omega) (by omega) hq ht, st1_bt (by omega) (by omega) hq ht, st1_bt (by omega) (by omega) hq ht, st1_bt (by omega) (by omega) hq ht, st1_bt (by omega) (by omega) hq ht]
  constructor
  · intro h
    split
    · rfl
    · next n1 =>
      split
      · rfl
      · next n2 =>
        split
        · rfl
        · next n3 =>
          split
          · rfl
          · next n4 =>
            split
            · rfl
            · next n5 =>
              split
              · rfl
              · next n6 =>
                exfalso
                rcases h with h | h | h | h | h | h
                · exact n1 h
                · exact n2 h
                · exact n3 h
                · exact n4 h
                · exact n5 h
                · exact n6 h
  · intro h
    rw [if_neg (fun q => h (Or.inl q)), if_neg (fun q => h (Or.inr (Or.inl q))), if_neg (fun q => h (Or.inr (Or.inr (Or.inl q)))), if_neg (fun q => h (Or.inr (Or.inr (Or.inr (Or.inl q))))), if_neg (fun q => h (Or.inr (Or.inr (Or.inr (Or.inr (Or.inl q)))))), if_neg (fun q => h (Or.inr (Or.inr (Or.inr (Or.inr (Or.inr q))))))]
theorem SY.st6 {T f : Int → Int} {k a b c is : Int} (h : SY T f k) (hk : k ≤ 8) (hI : IV f k) (ha : 0 ≤ a ∧ a < k) (hb : 0 ≤ b ∧ b < k) (hc : 0 ≤ c ∧ c < k) : SY (st6 T f a b c is) f k := fun p q r p1 p2 q1 q2 r1 r2 => by
  have hp := hI p p1 p2
  have hq := hI q q1 q2
  have hh := h p q r p1 p2 q1 q2 r1 r2
  have er : ((r.toNat : Nat) : Int) = r := by omega
  have ep : ((p.toNat : Nat) : Int) = p := by omega
  have eq : ((q.toNat : Nat) : Int) = q := by omega
  have t1 := st6_bt (T := T) (is := is) (p := p) (q := q) hk hI ha hb hc (by omega) (t := r.toNat) (by omega)
  have t2 := st6_bt (T := T) (is := is) (p := r) (q := f q) hk hI ha hb hc (by omega) (t := p.toNat) (by omega)
  have t3 := st6_bt (T := T) (is := is) (p := f p) (q := r) hk hI ha hb hc (by omega) (t := q.toNat) (by omega)
  rw [er] at t1
  rw [ep] at t2
  rw [eq] at t3
  have r1' : O6 f a b c p q r ↔ O6 f a b c r (f q) p := ⟨fun w => w.rho hI ha hb hc, fun w => by have := w.rho hI ha hb hc; rw [hq.2] at this; exact this⟩
  have r2' : O6 f a b c p q r ↔ O6 f a b c (f p) r q := ⟨fun w => w.sig hI ha hb hc, fun w => by have := w.sig hI ha hb hc; rw [hp.2] at this; exact this⟩
  unfold tb at hh ⊢
  by_cases w : O6 f a b c p q r
  · rw [t1.1 w, t2.1 (r1'.mp w), t3.1 (r2'.mp w)]
    exact ⟨rfl, rfl⟩
  · rw [t1.2 w, t2.2 (fun u => w (r1'.mpr u)), t3.2 (fun u => w (r2'.mpr u))]
    exact hh
theorem TBd.st6 {T f : Int → Int} {k a b c is : Int} (h : TBd T k) (hk : 1 ≤ k ∧ k ≤ 8) (hI : IV f k) (ha : 0 ≤ a ∧ a < k) (hb : 0 ≤ b ∧ b < k) (hc : 0 ≤ c ∧ c < k) (hR : ∀ p q, 0 ≤ p → p < k → 0 ≤ q → q < k → yR (st6 T f a b c is (8 * p + q))) : TBd (st6 T f a b c is) k := fun p q p1 p2 q1 q2 => by
  refine al_ge (by omega) (hR p q p1 p2 q1 q2) (fun t w => ?_)
  have ht := bt_i32 w
  have t1 := st6_bt (T := T) (is := is) (p := p) (q := q) hk.2 hI ha hb hc (by omega) ht
  by_cases o : O6 f a b c p q t
  · have fa := (hI a ha.1 ha.2).1
    have fb := (hI b hb.1 hb.2).1
    have fc := (hI c hc.1 hc.2).1
    unfold O6 at o
    rcases o with o | o | o | o | o | o <;> omega
  · rw [t1.2 o] at w
    exact bt_al (by omega) (h p q p1 p2 q1 q2) w
theorem st1_rng {T : Int → Int} {a b c is : Int} (h : ∀ j, yR (T j)) : ∀ j, yR (st1 T a b c is j) := fun j => by
  unfold st1
  split
  · exact sbc_rng _ _ _
  · exact h j
theorem st6_rng {T f : Int → Int} {a b c is : Int} (h : ∀ j, yR (T j)) : ∀ j, yR (st6 T f a b c is j) :=
  st1_rng (st1_rng (st1_rng (st1_rng (st1_rng (st1_rng h)))))
theorem O6.same {T f : Int → Int} {k a b c p q r : Int} (h : SY T f k) (hI : IV f k) (ha : 0 ≤ a ∧ a < k) (hb : 0 ≤ b ∧ b < k) (hc : 0 ≤ c ∧ c < k) (w : O6 f a b c p q r) : tb T p q r = tb T a b c := by
  have fa := hI a ha.1 ha.2
  have fb := hI b hb.1 hb.2
  have fc := hI c hc.1 hc.2
  have s1 := h a b c ha.1 ha.2 hb.1 hb.2 hc.1 hc.2
  have s2 := h c (f b) a hc.1 hc.2 fb.1.1 fb.1.2 ha.1 ha.2
  have s3 := h (f a) c b fa.1.1 fa.1.2 hc.1 hc.2 hb.1 hb.2
  have s4 := h b (f c) (f a) hb.1 hb.2 fc.1.1 fc.1.2 fa.1.1 fa.1.2
  unfold O6 at w
  rcases w with ⟨rfl, rfl, rfl⟩ | ⟨rfl, rfl, rfl⟩ | ⟨rfl, rfl, rfl⟩ | ⟨rfl, rfl, rfl⟩ | ⟨rfl, rfl, rfl⟩ | ⟨rfl, rfl, rfl⟩
  · rw [← s4.2, ← s3.1, ← s1.2]
  · rw [← s2.2, ← s1.1]
  · rw [← s3.1, ← s1.2]
  · rw [← s1.2]
  · rw [← s1.1]
  · rfl
theorem st6_no {T f : Int → Int} {k a b c is p q : Int} (h : SY T f k) (hk : k ≤ 8) (hI : IV f k) (ha : 0 ≤ a ∧ a < k) (hb : 0 ≤ b ∧ b < k) (hc : 0 ≤ c ∧ c < k) (hq : 0 ≤ q ∧ q < 8) (hT : ∀ j, yR (T j)) (e : tb T a b c = decide (is = 1)) : st6 T f a b c is (8 * p + q) = T (8 * p + q) := by
  refine bt_ext (st6_rng hT _) (hT _) (fun t ht => ?_)
  have t1 := st6_bt (T := T) (is := is) (p := p) (q := q) hk hI ha hb hc hq ht
  by_cases o : O6 f a b c p q t
  · rw [t1.1 o, ← e, ← o.same h hI ha hb hc]
    unfold tb
    rw [Int.toNat_natCast]
  · exact t1.2 o
theorem st6_cg {T T' f f' : Int → Int} {k a b c is : Int} (hk : k ≤ 8) (hI : IV f k) (ha : 0 ≤ a ∧ a < k) (hb : 0 ≤ b ∧ b < k) (hc : 0 ≤ c ∧ c < k) (hT : ∀ j, yR (T j)) (hT' : ∀ j, yR (T' j)) (ef : ∀ j, 0 ≤ j → j < k → f' j = f j) (e : ∀ p q : Int, 0 ≤ p → p < k → 0 ≤ q → q < k → T' (8 * p + q) = T (8 * p + q)) {p q : Int} (hp : 0 ≤ p ∧ p < k) (hq : 0 ≤ q ∧ q < k) : st6 T' f' a b c is (8 * p + q) = st6 T f a b c is (8 * p + q) := by
  have hI' : IV f' k := hI.cg ef
  refine bt_ext (st6_rng hT' _) (st6_rng hT _) (fun t ht => ?_)
  have t1 := st6_bt (T := T) (is := is) (p := p) (q := q) hk hI ha hb hc (by omega) ht
  have t2 := st6_bt (T := T') (is := is) (p := p) (q := q) hk hI' ha hb hc (by omega) ht
  have eo : O6 f' a b c p q t ↔ O6 f a b c p q t := by
    unfold O6
    rw [ef a ha.1 ha.2, ef b hb.1 hb.2, ef c hc.1 hc.2]
  by_cases o : O6 f a b c p q t
  · rw [t1.1 o, t2.1 (eo.mpr o)]
  · rw [t1.2 o, t2.2 (fun u => o (eo.mp u)), e p q hp.1 hp.2 hq.1 hq.2]
/-! TRIANGLES OF A TABLE FUSED, MADE OF TWO -/
/-- the bits of a set put through names -/
def rO (N : Int → Int) (s : Int) : Nat → Int
  | 0 => 0
  | n + 1 => if yand (yshr s (n : Int)) 1 = 1 then yor (rO N s n) (yshl 1 (N n)) else rO N s n
theorem rO_rng (N : Int → Int) (s : Int) : ∀ n : Nat, yR (rO N s n)
  | 0 => by simp only [rO]; decide
  | n + 1 => by
    simp only [rO]
    split
    · exact rng_yor _ _
    · exact rO_rng N s n
theorem rO_s {N : Int → Int} {s x v : Int} (h : 0 ≤ x) (e : v = rO N s x.toNat) (hc : yand (yshr s x) 1 = 1) : yor v (yshl 1 (N x)) = rO N s (x + 1).toNat := by
  rw [show (x + 1).toNat = x.toNat + 1 by omega]
  simp only [rO]
  rw [show ((x.toNat : Nat) : Int) = x by omega, if_pos hc, e]
theorem rO_n {N : Int → Int} {s x v : Int} (h : 0 ≤ x) (e : v = rO N s x.toNat) (hc : yand (yshr s x) 1 ≠ 1) : v = rO N s (x + 1).toNat := by
  rw [show (x + 1).toNat = x.toNat + 1 by omega]
  simp only [rO]
  rw [show ((x.toNat : Nat) : Int) = x by omega, if_neg hc, e]
theorem rO_bt {N : Int → Int} {s : Int} (hs : 0 ≤ s ∧ s < 2147483648) (t : Nat) : ∀ n : Nat, n ≤ 31 → (∀ e : Nat, e < n → bt s e = true → 0 ≤ N e ∧ N e < 32) → (bt (rO N s n) t = true ↔ ∃ e : Nat, e < n ∧ bt s e = true ∧ N e = t)
  | 0, _, _ => by
    simp only [rO, bt_0]
    constructor
    · intro q; cases q
    · rintro ⟨e, h, _⟩; omega
  | n + 1, hn, hN => by
    have ih := rO_bt hs t n (by omega) (fun e h1 h2 => hN e (by omega) h2)
    simp only [rO]
    by_cases q : bt s n = true
    · have hb := hN n (by omega) q
      rw [if_pos ((ybit hs (by omega)).mpr q), bt_yor, Bool.or_eq_true, ih, bt_bit hb, decide_eq_true_eq]
      constructor
      · rintro (⟨e, h1, h2, h3⟩ | w)
        · exact ⟨e, by omega, h2, h3⟩
        · exact ⟨n, by omega, q, by omega⟩
      · rintro ⟨e, h1, h2, h3⟩
        by_cases w : e = n
        · subst w; exact Or.inr (by omega)
        · exact Or.inl ⟨e, by omega, h2, h3⟩
    · rw [if_neg (fun w => q ((ybit hs (by omega)).mp w)), ih]
      constructor
      · rintro ⟨e, h1, h2, h3⟩
        exact ⟨e, by omega, h2, h3⟩
      · rintro ⟨e, h1, h2, h3⟩
        by_cases w : e = n
        · subst w; exact absurd h2 q
        · exact ⟨e, by omega, h2, h3⟩
/-- a triangle of the table fused, out of those told before (x, y) -/
def FS (T N : Int → Int) (k x y : Int) (A B : Int) (t : Nat) : Prop := ∃ p q e : Int, (0 ≤ p ∧ p < k) ∧ (0 ≤ q ∧ q < k) ∧ (0 ≤ e ∧ e < k) ∧ (p < x ∨ p = x ∧ q < y) ∧ N p = A ∧ N q = B ∧ N e = t ∧ bt (T (8 * p + q)) e.toNat = true
def FSP (T N : Int → Int) (k m x y : Int) (T' : Int → Int) : Prop := ∀ A B : Int, 0 ≤ A → A < m → 0 ≤ B → B < m → ∀ t : Nat, bt (T' (8 * A + B)) t = true ↔ FS T N k x y A B t
theorem FS.row {T N : Int → Int} {k x A B : Int} {t : Nat} {y : Int} (hy : k ≤ y) : FS T N k x y A B t ↔ FS T N k (x + 1) 0 A B t := by
  constructor
  · rintro ⟨p, q, e, h1, h2, h3, h4, h5⟩
    exact ⟨p, q, e, h1, h2, h3, by omega, h5⟩
  · rintro ⟨p, q, e, h1, h2, h3, h4, h5⟩
    exact ⟨p, q, e, h1, h2, h3, by omega, h5⟩
theorem FSP.row {T N T' : Int → Int} {k m x y : Int} (h : FSP T N k m x y T') (hy : k ≤ y) : FSP T N k m (x + 1) 0 T' := fun A B a1 a2 b1 b2 t => (h A B a1 a2 b1 b2 t).trans (FS.row hy)
theorem FSP.z {T N T' : Int → Int} {k m : Int} (h : ∀ j : Int, 0 ≤ j → j < 64 → T' j = 0) (hm : m ≤ 8) : FSP T N k m 0 0 T' := fun A B a1 a2 b1 b2 t => by
  rw [h _ (by omega) (by omega), bt_0]
  constructor
  · intro q; cases q
  · rintro ⟨p, q, e, h1, h2, h3, h4, h5⟩
    omega
theorem FSP.s {T N T' T'' : Int → Int} {k m x y v w : Int} (h : FSP T N k m x y T') (hm : m ≤ 8) (hx : 0 ≤ x ∧ x < k) (hy : 0 ≤ y ∧ y < k) (hN : ∀ c, 0 ≤ c → c < k → 0 ≤ N c ∧ N c < m) (e : ∀ j, T'' j = if j = 8 * N x + N y then yor (T' j) v else T' j) (hv : ∀ t : Nat, bt v t = true ↔ ∃ e : Int, 0 ≤ e ∧ e < k ∧ N e = t ∧ bt (T (8 * x + y)) e.toNat = true) : FSP T N k m x (y + 1) T'' := fun A B a1 a2 b1 b2 t => by
  have nx := hN x hx.1 hx.2
  have ny := hN y hy.1 hy.2
  rw [e]
  by_cases q : A = N x ∧ B = N y
  · rw [if_pos (by omega), bt_yor, Bool.or_eq_true, h A B a1 a2 b1 b2 t, hv t]
    constructor
    · rintro (⟨p, r, d, h1, h2, h3, h4, h5⟩ | ⟨d, h1, h2, h3, h4⟩)
      · exact ⟨p, r, d, h1, h2, h3, by omega, h5⟩
      · exact ⟨x, y, d, hx, hy, ⟨h1, h2⟩, by omega, q.1.symm, q.2.symm, h3, h4⟩
    · rintro ⟨p, r, d, h1, h2, h3, h4, h5, h6, h7, h8⟩
      by_cases w : p = x ∧ r = y
      · rw [w.1, w.2] at h8
        exact Or.inr ⟨d, h3.1, h3.2, h7, h8⟩
      · exact Or.inl ⟨p, r, d, h1, h2, h3, by omega, h5, h6, h7, h8⟩
  · rw [if_neg (by omega), h A B a1 a2 b1 b2 t]
    constructor
    · rintro ⟨p, r, d, h1, h2, h3, h4, h5⟩
      exact ⟨p, r, d, h1, h2, h3, by omega, h5⟩
    · rintro ⟨p, r, d, h1, h2, h3, h4, h5, h6, h7⟩
      by_cases w : p = x ∧ r = y
      · rw [w.1] at h5
        rw [w.2] at h6
        exact absurd ⟨h5.symm, h6.symm⟩ q
      · exact ⟨p, r, d, h1, h2, h3, by omega, h5, h6, h7⟩
theorem FSP.cu {T N U U' : Int → Int} {k m x y : Int} (h : FSP T N k m x y U) (e : ∀ A B : Int, 0 ≤ A → A < m → 0 ≤ B → B < m → U' (8 * A + B) = U (8 * A + B)) : FSP T N k m x y U' := fun A B a1 a2 b1 b2 t => by
  rw [e A B a1 a2 b1 b2]
  exact h A B a1 a2 b1 b2 t
/-- triangles told one by one -/
def FSQ (T N : Int → Int) (k m x y z : Int) (U : Int → Int) : Prop := ∀ A B : Int, 0 ≤ A → A < m → 0 ≤ B → B < m → ∀ t : Nat, bt (U (8 * A + B)) t = true ↔ ∃ p q e : Int, (0 ≤ p ∧ p < k) ∧ (0 ≤ q ∧ q < k) ∧ (0 ≤ e ∧ e < k) ∧ (p < x ∨ p = x ∧ q < y ∨ p = x ∧ q = y ∧ e < z) ∧ N p = A ∧ N q = B ∧ N e = t ∧ bt (T (8 * p + q)) e.toNat = true
theorem FSP.q {T N U : Int → Int} {k m x y : Int} (h : FSP T N k m x y U) : FSQ T N k m x y 0 U := fun A B a1 a2 b1 b2 t => by
  rw [h A B a1 a2 b1 b2 t]
  constructor
  · rintro ⟨p, q, e, h1, h2, h3, h4, h5⟩
    exact ⟨p, q, e, h1, h2, h3, by omega, h5⟩
  · rintro ⟨p, q, e, h1, h2, h3, h4, h5⟩
    exact ⟨p, q, e, h1, h2, h3, by omega, h5⟩
theorem FSQ.p {T N U : Int → Int} {k m x y z : Int} (h : FSQ T N k m x y z U) (hz : k ≤ z) : FSP T N k m x (y + 1) U := fun A B a1 a2 b1 b2 t => by
  rw [h A B a1 a2 b1 b2 t]
  constructor
  · rintro ⟨p, q, e, h1, h2, h3, h4, h5⟩
    exact ⟨p, q, e, h1, h2, h3, by omega, h5⟩
  · rintro ⟨p, q, e, h1, h2, h3, h4, h5⟩
    exact ⟨p, q, e, h1, h2, h3, by omega, h5⟩
theorem FSQ.s {T N T' T'' : Int → Int} {k m x y z w : Int} (h : FSQ T N k m x y z T') (hm : m ≤ 8) (hx : 0 ≤ x ∧ x < k) (hy : 0 ≤ y ∧ y < k) (hz : 0 ≤ z ∧ z < k) (hN : ∀ c, 0 ≤ c → c < k → 0 ≤ N c ∧ N c < m) (e : ∀ j, T'' j = if j = 8 * N x + N y then yor (T' j) w else T' j) (hw : ∀ t : Nat, bt w t = true ↔ N z = t ∧ bt (T (8 * x + y)) z.toNat = true) : FSQ T N k m x y (z + 1) T'' := fun A B a1 a2 b1 b2 t => by
  have nx := hN x hx.1 hx.2
  have ny := hN y hy.1 hy.2
  rw [e]
  by_cases q : A = N x ∧ B = N y
  · rw [if_pos (by omega), bt_yor, Bool.or_eq_true, h A B a1 a2 b1 b2 t, hw t]
    constructor
    · rintro (⟨p, r, d, h1, h2, h3, h4, h5⟩ | ⟨h3, h4⟩)
      · exact ⟨p, r, d, h1, h2, h3, by omega, h5⟩
      · exact ⟨x, y, z, hx, hy, hz, by omega, q.1.symm, q.2.symm, h3, h4⟩
    · rintro ⟨p, r, d, h1, h2, h3, h4, h5, h6, h7, h8⟩
      by_cases c : p = x ∧ r = y ∧ d = z
      · rw [c.1, c.2.1, c.2.2] at h8
        rw [c.2.2] at h7
        exact Or.inr ⟨h7, h8⟩
      · exact Or.inl ⟨p, r, d, h1, h2, h3, by omega, h5, h6, h7, h8⟩
  · rw [if_neg (by omega), h A B a1 a2 b1 b2 t]
    constructor
    · rintro ⟨p, r, d, h1, h2, h3, h4, h5⟩
      exact ⟨p, r, d, h1, h2, h3, by omega, h5⟩
    · rintro ⟨p, r, d, h1, h2, h3, h4, h5, h6, h7⟩
      by_cases c : p = x ∧ r = y
      · rw [c.1] at h5
        rw [c.2] at h6
        exact absurd ⟨h5.symm, h6.symm⟩ q
      · exact ⟨p, r, d, h1, h2, h3, by omega, h5, h6, h7⟩
theorem fsw1 {n s : Int} {e : Nat} (hn : 0 ≤ n ∧ n < 32) (hb : bt s e = true) (t : Nat) : bt (yshl 1 n) t = true ↔ n = t ∧ bt s e = true := by
  rw [bt_bit hn, decide_eq_true_eq]
  constructor
  · intro q
    exact ⟨by omega, hb⟩
  · rintro ⟨q, _⟩
    omega
theorem fsw0 {n s : Int} {e : Nat} (hb : ¬ bt s e = true) (t : Nat) : bt 0 t = true ↔ n = t ∧ bt s e = true := by
  rw [bt_0]
  constructor
  · intro q; cases q
  · rintro ⟨_, q⟩; exact absurd q hb
theorem FSP.cg {T T' N N' U : Int → Int} {k m x y : Int} (h : FSP T N k m x y U) (eT : ∀ p q : Int, 0 ≤ p → p < k → 0 ≤ q → q < k → T' (8 * p + q) = T (8 * p + q)) (eN : ∀ p, 0 ≤ p → p < k → N' p = N p) : FSP T' N' k m x y U := fun A B a1 a2 b1 b2 t => by
  rw [h A B a1 a2 b1 b2 t]
  constructor
  · rintro ⟨p, q, e, h1, h2, h3, h4, h5, h6, h7, h8⟩
    exact ⟨p, q, e, h1, h2, h3, h4, by rw [eN p h1.1 h1.2]; exact h5, by rw [eN q h2.1 h2.2]; exact h6, by rw [eN e h3.1 h3.2]; exact h7, by rw [eT p q h1.1 h1.2 h2.1 h2.2]; exact h8⟩
  · rintro ⟨p, q, e, h1, h2, h3, h4, h5, h6, h7, h8⟩
    exact ⟨p, q, e, h1, h2, h3, h4, by rw [← eN p h1.1 h1.2]; exact h5, by rw [← eN q h2.1 h2.2]; exact h6, by rw [← eN e h3.1 h3.2]; exact h7, by rw [← eT p q h1.1 h1.2 h2.1 h2.2]; exact h8⟩
theorem rnm_bt {N T : Int → Int} {k : Int} {Nm : Int → Int} (hk : 1 ≤ k ∧ k ≤ 8) {s : Int} (hs : 0 ≤ s ∧ s ≤ al k) (hN : ∀ c, 0 ≤ c → c < k → 0 ≤ N c ∧ N c < 8) (e : ∀ c, 0 ≤ c → c < k → Nm c = N c) (t : Nat) : bt (rO Nm s 8) t = true ↔ ∃ d : Int, 0 ≤ d ∧ d < k ∧ N d = t ∧ bt s d.toNat = true := by
  have h8 := al_le hk
  rw [rO_bt (by omega) t 8 (by omega) (fun d h1 h2 => by
    have := bt_al (by omega) hs h2
    rw [e d (by omega) (by omega)]
    have := hN d (by omega) (by omega)
    omega)]
  constructor
  · rintro ⟨d, h1, h2, h3⟩
    have := bt_al (by omega) hs h2
    exact ⟨d, by omega, by omega, by rw [← e d (by omega) (by omega)]; exact h3, by rw [Int.toNat_natCast]; exact h2⟩
  · rintro ⟨d, h1, h2, h3, h4⟩
    exact ⟨d.toNat, by omega, h4, by rw [show ((d.toNat : Nat) : Int) = d by omega, e d h1 h2]; exact h3⟩
/-- so it is the same whichever way it was told -/
theorem FSP.uq {T1 T2 N1 N2 U1 U2 : Int → Int} {k m : Int} (h1 : FSP T1 N1 k m k 0 U1) (h2 : FSP T2 N2 k m k 0 U2) (eT : ∀ p q : Int, 0 ≤ p → p < k → 0 ≤ q → q < k → T1 (8 * p + q) = T2 (8 * p + q)) (eN : ∀ p, 0 ≤ p → p < k → N1 p = N2 p) {A B : Int} (hA : 0 ≤ A ∧ A < m) (hB : 0 ≤ B ∧ B < m) (r1 : yR (U1 (8 * A + B))) (r2 : yR (U2 (8 * A + B))) : U1 (8 * A + B) = U2 (8 * A + B) := by
  refine bt_ext r1 r2 (fun t ht => ?_)
  rw [Bool.eq_iff_iff, h1 A B hA.1 hA.2 hB.1 hB.2 t, h2 A B hA.1 hA.2 hB.1 hB.2 t]
  constructor
  · rintro ⟨p, q, e, a1, a2, a3, a4, a5, a6, a7, a8⟩
    exact ⟨p, q, e, a1, a2, a3, a4, by rw [← eN p a1.1 a1.2]; exact a5, by rw [← eN q a2.1 a2.2]; exact a6, by rw [← eN e a3.1 a3.2]; exact a7, by rw [← eT p q a1.1 a1.2 a2.1 a2.2]; exact a8⟩
  · rintro ⟨p, q, e, a1, a2, a3, a4, a5, a6, a7, a8⟩
    exact ⟨p, q, e, a1, a2, a3, a4, by rw [eN p a1.1 a1.2]; exact a5, by rw [eN q a2.1 a2.2]; exact a6, by rw [eN e a3.1 a3.2]; exact a7, by rw [eT p q a1.1 a1.2 a2.1 a2.2]; exact a8⟩
theorem FSP.bd {T N U : Int → Int} {k m : Int} (h : FSP T N k m k 0 U) (hm : 1 ≤ m ∧ m ≤ 8) (hN : ∀ c, 0 ≤ c → c < k → 0 ≤ N c ∧ N c < m) (hU : ∀ j, yR (U j)) : TBd U m := fun A B a1 a2 b1 b2 => by
  refine al_ge (by omega) (hU _) (fun t w => ?_)
  obtain ⟨p, q, e, h1, h2, h3, h4, h5, h6, h7, h8⟩ := (h A B a1 a2 b1 b2 t).mp w
  have := hN e h3.1 h3.2
  omega
theorem FSP.sy {T N U f g : Int → Int} {k m : Int} (h : FSP T N k m k 0 U) (hm : m ≤ 8) (hs : SY T f k) (hI : IV f k) (hg : IV g m) (hN : ∀ c, 0 ≤ c → c < k → 0 ≤ N c ∧ N c < m) (hgf : ∀ c, 0 ≤ c → c < k → g (N c) = N (f c)) : SY U g m := fun A B C a1 a2 b1 b2 c1 c2 => by
  have gA := hg A a1 a2
  have gB := hg B b1 b2
  have eA : ((A.toNat : Nat) : Int) = A := by omega
  have eB : ((B.toNat : Nat) : Int) = B := by omega
  have eC : ((C.toNat : Nat) : Int) = C := by omega
  have rho : ∀ A B C : Int, 0 ≤ A → 0 ≤ C → FS T N k k 0 A B C.toNat → FS T N k k 0 C (g B) A.toNat := by
    rintro A B C hA hC ⟨p, q, e, h1, h2, h3, h4, h5, h6, h7, h8⟩
    have hq := hI q h2.1 h2.2
    refine ⟨e, f q, p, h3, hq.1, h1, Or.inl h3.2, by omega, by rw [← h6, hgf q h2.1 h2.2], by omega, ?_⟩
    have := (hs p q e h1.1 h1.2 h2.1 h2.2 h3.1 h3.2).1
    unfold tb at this
    rw [← this]
    exact h8
  have sig : ∀ A B C : Int, 0 ≤ B → 0 ≤ C → FS T N k k 0 A B C.toNat → FS T N k k 0 (g A) C B.toNat := by
    rintro A B C hA hC ⟨p, q, e, h1, h2, h3, h4, h5, h6, h7, h8⟩
    have hp := hI p h1.1 h1.2
    refine ⟨f p, e, q, hp.1, h3, h2, Or.inl hp.1.2, by rw [← h5, hgf p h1.1 h1.2], by omega, by omega, ?_⟩
    have := (hs p q e h1.1 h1.2 h2.1 h2.2 h3.1 h3.2).2
    unfold tb at this
    rw [← this]
    exact h8
  unfold tb
  have t1 := h A B a1 a2 b1 b2 C.toNat
  have t2 := h C (g B) c1 c2 gB.1.1 gB.1.2 A.toNat
  have t3 := h (g A) C gA.1.1 gA.1.2 c1 c2 B.toNat
  refine (fun (w : (_ ↔ _) ∧ (_ ↔ _)) => ⟨Bool.eq_iff_iff.mpr (t1.trans (w.1.trans t2.symm)), Bool.eq_iff_iff.mpr (t1.trans (w.2.trans t3.symm))⟩) ?_
  refine ⟨⟨rho A B C a1 c1, fun w => ?_⟩, ⟨sig A B C b1 c1, fun w => ?_⟩⟩
  · have := rho C (g B) A c1 a1 w
    rw [gB.2] at this
    exact this
  · have := sig (g A) C B c1 b1 w
    rw [gA.2] at this
    exact this
/-- the bits of pairs -/
def pO (s o k : Int) : Nat → Int
  | 0 => 0
  | n + 1 => if yand (yshr o (n : Int)) 1 = 1 then yor (pO s o k n) (yshl s (k * n)) else pO s o k n
theorem pO_rng (s o k : Int) : ∀ n : Nat, yR (pO s o k n)
  | 0 => by simp only [pO]; decide
  | n + 1 => by
    simp only [pO]
    split
    · exact rng_yor _ _
    · exact pO_rng s o k n
theorem pO_s {s o k x v : Int} (h : 0 ≤ x) (e : v = pO s o k x.toNat) (hc : yand (yshr o x) 1 = 1) : yor v (yshl s (k * x)) = pO s o k (x + 1).toNat := by
  rw [show (x + 1).toNat = x.toNat + 1 by omega]
  simp only [pO]
  rw [show ((x.toNat : Nat) : Int) = x by omega, if_pos hc, e]
theorem pO_n {s o k x v : Int} (h : 0 ≤ x) (e : v = pO s o k x.toNat) (hc : yand (yshr o x) 1 ≠ 1) : v = pO s o k (x + 1).toNat := by
  rw [show (x + 1).toNat = x.toNat + 1 by omega]
  simp only [pO]
  rw [show ((x.toNat : Nat) : Int) = x by omega, if_neg hc, e]
theorem pO_bt {s o k : Int} (ho : 0 ≤ o ∧ o < 2147483648) (t : Nat) (ht : t < 32) : ∀ n : Nat, n ≤ 31 → (∀ r : Nat, r < n → bt o r = true → 0 ≤ k * r ∧ k * r < 32) → (bt (pO s o k n) t = true ↔ ∃ r : Nat, r < n ∧ bt o r = true ∧ k * r ≤ t ∧ bt s ((t : Int) - k * r).toNat = true)
  | 0, _, _ => by
    simp only [pO, bt_0]
    constructor
    · intro q; cases q
    · rintro ⟨e, h, _⟩; omega
  | n + 1, hn, hN => by
    have ih := pO_bt (s := s) ho t ht n (by omega) (fun e h1 h2 => hN e (by omega) h2)
    simp only [pO]
    by_cases q : bt o n = true
    · have hb := hN n (by omega) q
      have hsh : bt (yshl s (k * n)) t = true ↔ k * n ≤ t ∧ bt s ((t : Int) - k * n).toNat = true := by
        rw [bt_yshl _ hb]
        simp only [Bool.and_eq_true, Bool.not_eq_true', decide_eq_true_eq, decide_eq_false_iff_not]
        constructor
        · rintro ⟨⟨w1, w2⟩, w3⟩
          exact ⟨by omega, by rw [show ((t : Int) - k * n).toNat = t - (k * (n : Int)).toNat by omega]; exact w3⟩
        · rintro ⟨w1, w2⟩
          exact ⟨⟨ht, by omega⟩, by rw [show t - (k * (n : Int)).toNat = ((t : Int) - k * n).toNat by omega]; exact w2⟩
      rw [if_pos ((ybit ho (by omega)).mpr q), bt_yor, Bool.or_eq_true, ih, hsh]
      constructor
      · rintro (⟨r, h1, h2, h3⟩ | w)
        · exact ⟨r, by omega, h2, h3⟩
        · exact ⟨n, by omega, q, w⟩
      · rintro ⟨r, h1, h2, h3⟩
        by_cases w : r = n
        · subst w; exact Or.inr h3
        · exact Or.inl ⟨r, by omega, h2, h3⟩
    · rw [if_neg (fun w => q ((ybit ho (by omega)).mp w)), ih]
      constructor
      · rintro ⟨r, h1, h2, h3⟩
        exact ⟨r, by omega, h2, h3⟩
      · rintro ⟨r, h1, h2, h3⟩
        by_cases w : r = n
        · subst w; exact absurd h2 q
        · exact ⟨r, by omega, h2, h3⟩
theorem dec2 {k m A : Int} (hk : 1 ≤ k) (hA : 0 ≤ A ∧ A < k * m) : ∃ p s : Int, (0 ≤ p ∧ p < k) ∧ (0 ≤ s ∧ s < m) ∧ A = p + k * s := by
  obtain ⟨a, rfl⟩ := Int.eq_ofNat_of_zero_le hA.1
  obtain ⟨b, rfl⟩ := Int.eq_ofNat_of_zero_le (show 0 ≤ k by omega)
  have h1 := Nat.mod_lt a (show b > 0 by omega)
  have h2 := Nat.mod_add_div a b
  have h5 : ((b * (a / b) : Nat) : Int) = (b : Int) * ((a / b : Nat) : Int) := Int.natCast_mul _ _
  have h3 : ((a / b : Nat) : Int) < m := by
    rcases Int.lt_or_le ((a / b : Nat) : Int) m with q | q
    · exact q
    · exfalso
      have h4 := Int.mul_le_mul_of_nonneg_left q (show (0 : Int) ≤ b by omega)
      omega
  generalize a / b = q at *
  generalize a % b = r at *
  exact ⟨(r : Int), (q : Int), by omega, ⟨by omega, h3⟩, by omega⟩
theorem ixv {k x y x' y' : Int} (hx : 0 ≤ x ∧ x < k) (hx' : 0 ≤ x' ∧ x' < k) (h : x + k * y = x' + k * y') : x = x' ∧ y = y' := by
  have hy : y = y' := by
    rcases Int.lt_trichotomy y y' with q | q | q
    · exfalso
      have h1 := Int.mul_le_mul_of_nonneg_left (show y + 1 ≤ y' by omega) (show 0 ≤ k by omega)
      rw [Int.mul_add, Int.mul_one] at h1
      omega
    · exact q
    · exfalso
      have h1 := Int.mul_le_mul_of_nonneg_left (show y' + 1 ≤ y by omega) (show 0 ≤ k by omega)
      rw [Int.mul_add, Int.mul_one] at h1
      omega
  subst hy
  omega
theorem ixw {k m x y : Int} (hx : 0 ≤ x ∧ x < k) (hy : 0 ≤ y ∧ y < m) : 0 ≤ k * y ∧ 0 ≤ x + k * y ∧ x + k * y < k * m := by
  have h1 := Int.mul_le_mul_of_nonneg_left (show y + 1 ≤ m by omega) (show 0 ≤ k by omega)
  rw [Int.mul_add, Int.mul_one] at h1
  have h2 := Int.mul_nonneg (show 0 ≤ k by omega) hy.1
  omega
/-- the bits of a pair of triangles -/
def PQ2 (T S : Int → Int) (k m : Int) (p s q t : Int) (u : Nat) : Prop := ∃ c r : Int, (0 ≤ c ∧ c < k) ∧ (0 ≤ r ∧ r < m) ∧ (u : Int) = c + k * r ∧ bt (T (8 * p + q)) c.toNat = true ∧ bt (S (8 * s + t)) r.toNat = true
def TWO (T S : Int → Int) (k m : Int) (U : Int → Int) : Prop := ∀ p s q t : Int, 0 ≤ p → p < k → 0 ≤ s → s < m → 0 ≤ q → q < k → 0 ≤ t → t < m → ∀ u : Nat, bt (U (8 * (p + k * s) + (q + k * t))) u = true ↔ PQ2 T S k m p s q t u
theorem pO_P2 {T S : Int → Int} {k m : Int} (hk : 1 ≤ k ∧ k ≤ 8) (hm : 1 ≤ m ∧ m ≤ 8) (hkm : k * m ≤ 8) (hT : TBd T k) (hS : TBd S m) {p s q t : Int} (p1 : 0 ≤ p) (p2 : p < k) (s1 : 0 ≤ s) (s2 : s < m) (q1 : 0 ≤ q) (q2 : q < k) (t1 : 0 ≤ t) (t2 : t < m) (u : Nat) : bt (pO (T (8 * p + q)) (S (8 * s + t)) k 8) u = true ↔ PQ2 T S k m p s q t u := by
  have a1 := al_le hk
  have a2 := al_le hm
  have bT := hT p q p1 p2 q1 q2
  have bS := hS s t s1 s2 t1 t2
  have sh : ∀ r : Nat, bt (S (8 * s + t)) r = true → r < m.toNat ∧ 0 ≤ k * (r : Int) ∧ k * (r : Int) + k ≤ 8 := fun r h2 => by
    have w := bt_al (by omega) bS h2
    have w2 := ixw (k := k) (m := m) (x := k - 1) (y := (r : Int)) (by omega) (by omega)
    refine ⟨w, by omega, ?_⟩
    have := w2.2.2
    omega
  by_cases hu : u < 32
  · rw [pO_bt (by omega) u hu 8 (by omega) (fun r h1 h2 => by have := sh r h2; omega)]
    constructor
    · rintro ⟨r, h1, h2, h3, h4⟩
      have w := sh r h2
      have w3 := bt_al (by omega) bT h4
      exact ⟨(u : Int) - k * r, r, by omega, by omega, by omega, h4, by rw [Int.toNat_natCast]; exact h2⟩
    · rintro ⟨c, r, h1, h2, h3, h4, h5⟩
      refine ⟨r.toNat, by omega, h5, ?_, ?_⟩
      · rw [show ((r.toNat : Nat) : Int) = r by omega]; omega
      · rw [show ((r.toNat : Nat) : Int) = r by omega, show (u : Int) - k * r = c by omega]; exact h4
  · constructor
    · intro w
      exact absurd (bt_i32 w) hu
    · rintro ⟨c, r, h1, h2, h3, h4, h5⟩
      exfalso
      have w2 := ixw (k := k) (m := m) (x := c) (y := r) h1 h2
      omega
theorem TWO.tb {T S U : Int → Int} {k m : Int} (h : TWO T S k m U) {p s q t c r : Int} (hp : 0 ≤ p ∧ p < k) (hs : 0 ≤ s ∧ s < m) (hq : 0 ≤ q ∧ q < k) (ht : 0 ≤ t ∧ t < m) (hc : 0 ≤ c ∧ c < k) (hr : 0 ≤ r ∧ r < m) : tb U (p + k * s) (q + k * t) (c + k * r) = (tb T p q c && tb S s t r) := by
  have b := ixw hc hr
  show bt (U (8 * (p + k * s) + (q + k * t))) (c + k * r).toNat = (bt (T (8 * p + q)) c.toNat && bt (S (8 * s + t)) r.toNat)
  rw [Bool.eq_iff_iff, h p s q t hp.1 hp.2 hs.1 hs.2 hq.1 hq.2 ht.1 ht.2, Bool.and_eq_true]
  constructor
  · rintro ⟨c', r', h1, h2, h3, h4, h5⟩
    obtain ⟨e1, e2⟩ := ixv (y := r) (y' := r') hc h1 (by omega)
    rw [e1, e2]
    exact ⟨h4, h5⟩
  · rintro ⟨h4, h5⟩
    exact ⟨c, r, hc, hr, by omega, h4, h5⟩
theorem TWO.sy {T S U f g f' : Int → Int} {k m : Int} (h : TWO T S k m U) (hk : 1 ≤ k) (hT : SY T f k) (hS : SY S g m) (hf : IV f k) (hg : IV g m) (he : ∀ p s : Int, 0 ≤ p → p < k → 0 ≤ s → s < m → f' (p + k * s) = f p + k * g s) : SY U f' (k * m) := fun A B C a1 a2 b1 b2 c1 c2 => by
  obtain ⟨p, s, hp, hs, rfl⟩ := dec2 hk ⟨a1, a2⟩
  obtain ⟨q, t, hq, ht, rfl⟩ := dec2 hk ⟨b1, b2⟩
  obtain ⟨c, r, hc, hr, rfl⟩ := dec2 hk ⟨c1, c2⟩
  rw [he q t hq.1 hq.2 ht.1 ht.2, he p s hp.1 hp.2 hs.1 hs.2, h.tb hp hs hq ht hc hr, h.tb hc hr (hf q hq.1 hq.2).1 (hg t ht.1 ht.2).1 hp hs, h.tb (hf p hp.1 hp.2).1 (hg s hs.1 hs.2).1 hc hr hq ht]
  have e1 := hT p q c hp.1 hp.2 hq.1 hq.2 hc.1 hc.2
  have e2 := hS s t r hs.1 hs.2 ht.1 ht.2 hr.1 hr.2
  exact ⟨by rw [e1.1, e2.1], by rw [e1.2, e2.2]⟩
theorem TWO.bd {T S U : Int → Int} {k m : Int} (h : TWO T S k m U) (hk : 1 ≤ k) (hm : 0 ≤ m) (hkm : k * m ≤ 8) (hU : ∀ j, yR (U j)) : TBd U (k * m) := fun A B a1 a2 b1 b2 => by
  obtain ⟨p, s, hp, hs, rfl⟩ := dec2 hk ⟨a1, a2⟩
  obtain ⟨q, t, hq, ht, rfl⟩ := dec2 hk ⟨b1, b2⟩
  refine al_ge (by have := Int.mul_nonneg (show 0 ≤ k by omega) hm; omega) (hU _) (fun u w => ?_)
  obtain ⟨c, r, h1, h2, h3, h4, h5⟩ := (h p s q t hp.1 hp.2 hs.1 hs.2 hq.1 hq.2 ht.1 ht.2 u).mp w
  have b := ixw h1 h2
  omega
theorem TWO.uq {T S U T' S' U' : Int → Int} {k m : Int} (hk : 1 ≤ k) (h : TWO T S k m U) (h' : TWO T' S' k m U') (eT : ∀ p q : Int, 0 ≤ p → p < k → 0 ≤ q → q < k → T (8 * p + q) = T' (8 * p + q)) (eS : ∀ p q : Int, 0 ≤ p → p < m → 0 ≤ q → q < m → S (8 * p + q) = S' (8 * p + q)) (rU : ∀ j, yR (U j)) (rU' : ∀ j, yR (U' j)) {A B : Int} (hA : 0 ≤ A ∧ A < k * m) (hB : 0 ≤ B ∧ B < k * m) : U (8 * A + B) = U' (8 * A + B) := by
  obtain ⟨p, s, hp, hs, rfl⟩ := dec2 hk hA
  obtain ⟨q, t, hq, ht, rfl⟩ := dec2 hk hB
  refine bt_ext (rU _) (rU' _) (fun u _ => ?_)
  rw [Bool.eq_iff_iff, h p s q t hp.1 hp.2 hs.1 hs.2 hq.1 hq.2 ht.1 ht.2, h' p s q t hp.1 hp.2 hs.1 hs.2 hq.1 hq.2 ht.1 ht.2]
  unfold PQ2
  rw [eT p q hp.1 hp.2 hq.1 hq.2, eS s t hs.1 hs.2 ht.1 ht.2]
