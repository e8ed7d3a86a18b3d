/-! THE LAW -/
theorem m0_all : (∀ n : Nat, n < 8 → ld M0 2 (n : Int) = (n : Int)) ∧ (∀ n : Nat, n < 8 → 0 ≤ ld M0 8 (n : Int) ∧ ld M0 8 (n : Int) < 8) ∧ (∀ n : Nat, n < 8 → ld M0 93 (n : Int) = (n : Int)) ∧ (∀ n : Nat, n < 64 → ld M0 100 (n : Int) = 1) ∧ (∀ n : Nat, n < 4 → ld M0 108 (n : Int) = 1 ∧ ld M0 107 (60 * (n : Int)) = 48) ∧ (∀ n : Nat, n < 25 → 0 ≤ ld M0 112 (n : Int) ∧ ld M0 112 (n : Int) < 8) ∧ (ld M0 65 7 = 0 ∨ ld M0 65 7 = 1) ∧ ld M0 1 0 = 1 ∧ ld M0 92 2 = 1 ∧ ld M0 19 0 = 3 ∧ ld M0 92 11 = 3 ∧ ld M0 7 0 = 0 ∧ ld M0 92 5 = 0 ∧ ld M0 77 1 = 0 ∧ ld M0 92 21 = 0 ∧ (∀ n : Nat, n < 64 → ld M0 20 (n : Int) = 1) ∧ ld M0 4 0 = 0 ∧ ld M0 4 1 = 1 ∧ ld M0 10 0 = 0 ∧ ld M0 16 0 = 0 := by decide +kernel
theorem inv_M0 : INV M0 := by
  obtain ⟨h2, h8, h93, h100, h108, h112, h65, a1, a2, a3, a4, a5, a6, a7, a8, h20, b1, b2, b3, b4⟩ := m0_all
  have toN : ∀ {j : Int}, 0 ≤ j → ∃ n : Nat, j = n := fun h => Int.eq_ofNat_of_zero_le h
  have t2 : ∀ j, 0 ≤ j → j < 8 → ld M0 2 j = j := fun j q1 q2 => by
    obtain ⟨n, rfl⟩ := toN q1
    exact h2 n (by omega)
  have t8 : ∀ j, 0 ≤ j → j < 8 → 0 ≤ ld M0 8 j ∧ ld M0 8 j < 8 := fun j q1 q2 => by
    obtain ⟨n, rfl⟩ := toN q1
    exact h8 n (by omega)
  have t93 : ∀ j, 0 ≤ j → j < 8 → ld M0 93 j = j := fun j q1 q2 => by
    obtain ⟨n, rfl⟩ := toN q1
    exact h93 n (by omega)
  have t100 : ∀ j, 0 ≤ j → j < 64 → ld M0 100 j = 1 := fun j q1 q2 => by
    obtain ⟨n, rfl⟩ := toN q1
    exact h100 n (by omega)
  have i2 : IV (ld M0 2) (ld M0 1 0) := fun j q1 q2 => by
    have e := t2 j q1 (by omega)
    rw [e, e]
    omega
  have i93 : IV (ld M0 93) (ld M0 92 2) := fun j q1 q2 => by
    have e := t93 j q1 (by omega)
    rw [e, e]
    omega
  have t20 : ∀ j, 0 ≤ j → j < 64 → ld M0 20 j = 1 := fun j q1 q2 => by
    obtain ⟨n, rfl⟩ := toN q1
    exact h20 n (by omega)
  have halc : al (ld M0 1 0) = 1 := by rw [a1]; decide
  have f0 : ld M0 2 ((0 : Nat) : Int) = 0 := t2 0 (by omega) (by omega)
  have s0 : tOf (ld M0 2) 0 1 = 0 := by simp only [tOf]; rw [f0]; decide
  have s1 : tOf (ld M0 2) 1 1 = 1 := by simp only [tOf]; rw [f0]; decide
  have hkn : (ld M0 1 0).toNat = 1 := by rw [a1]; rfl
  have hts : TS M0 := fun s q1 q2 => by
    rw [halc] at q2
    show ld M0 4 s = tOf (ld M0 2) s (ld M0 1 0).toNat
    rw [hkn]
    rcases (by omega : s = 0 ∨ s = 1) with e | e
    · rw [e, s0, b1]
    · rw [e, s1, b2]
  have hal : al (ld M0 92 2) = 1 := by rw [a2]; decide
  refine ⟨⟨by omega, fun j q1 q2 => by rw [t2 j q1 q2]; omega, i2, by omega, by omega, t8, fun j q1 q2 => absurd q2 (by omega), by omega, h65, ⟨b1, b3, b4⟩, hts⟩, ⟨⟨by omega, fun j q1 q2 => by rw [t93 j q1 q2]; omega, i93, by omega, by omega, fun j q1 q2 => absurd q2 (by omega)⟩, MB.of (fun i c q1 q2 q3 q4 => ?_) (by omega), fun i q1 q2 => ?_, ⟨by omega, by omega⟩, fun j q1 q2 => ?_⟩, ⟨by omega, by omega, by omega, fun j q1 q2 => by rw [t2 j q1 (by omega), t93 j q1 (by omega)], fun j q1 q2 => absurd q2 (by omega)⟩, fun j q1 q2 => by rw [t20 j q1 q2, t100 j q1 q2], fun i c q1 q2 q3 q4 q5 => by rw [t20 _ (by omega) (by omega), t20 _ (by omega) (by omega), halc, hkn, s1]; omega⟩
  · rw [t100 _ (by omega) (by omega), hal]
    split <;> rfl
  · obtain ⟨n, rfl⟩ := toN q1
    have q := h108 n (by omega)
    exact WFt_one q.1 q.2
  · obtain ⟨n, rfl⟩ := toN q1
    exact h112 n (by omega)
theorem m0_tri : (∀ n : Nat, n < 1024 → ld M0 5 (n : Int) = if n < 256 ∧ n / 16 % 2 = 1 ∧ n % 2 = 1 then 1 else 0) ∧ (∀ n : Nat, n < 64 → ld M0 3 (n : Int) = if n = 0 then 1 else 0) ∧ ld M0 94 0 = 1 := by decide +kernel
theorem odd_bt : ∀ n : Nat, n < 16 → bt (n : Int) 0 = decide (n % 2 = 1) := by decide +kernel
theorem tx_M0 : TX M0 := by
  obtain ⟨h2, h8, h93, h100, h108, h112, h65, a1, a2, a3, a4, a5, a6, a7, a8, h20, b1, b2, b3, b4⟩ := m0_all
  obtain ⟨c5, c3, c94⟩ := m0_tri
  have f0 : ld M0 2 0 = 0 := h2 0 (by omega)
  have t0 : ld M0 3 0 = 1 := c3 0 (by omega)
  have al1 : al (ld M0 1 0) = 1 := by rw [a1]; decide
  have t3 : ∀ j : Int, 0 ≤ j → j < 64 → ld M0 3 j = if j = 0 then 1 else 0 := fun j q1 q2 => by
    obtain ⟨n, rfl⟩ := Int.eq_ofNat_of_zero_le q1
    rw [c3 n (by omega)]
    by_cases e : n = 0
    · rw [if_pos e, if_pos (by omega)]
    · rw [if_neg e, if_neg (by omega)]
  refine ⟨⟨f0, ?_, ?_, ?_, ?_⟩, ⟨fun q => absurd a5 q, ?_, ?_⟩, ?_, ?_⟩
  · intro a b p1 p2 q1 q2
    rw [a1] at p2 q2
    rw [show 8 * a + b = 0 by omega, t0, al1]
    omega
  · intro a b c p1 p2 q1 q2 r1 r2
    rw [a1] at p2 q2 r2
    rw [show a = 0 by omega, show b = 0 by omega, show c = 0 by omega, f0]
    exact ⟨rfl, rfl⟩
  · intro lh rh p1 p2 q
    rw [a1] at q
    have e1 : lh = 0 := by omega
    have e2 : rh = 0 := by omega
    subst e1
    subst e2
    intro l r l1 l2 r1 r2 _ t
    obtain ⟨x, rfl⟩ := Int.eq_ofNat_of_zero_le (show 0 ≤ l by omega)
    obtain ⟨y, rfl⟩ := Int.eq_ofNat_of_zero_le (show 0 ≤ r by omega)
    have e5 := c5 (16 * x + y) (by omega)
    have o1 := odd_bt x (by omega)
    have o2 := odd_bt y (by omega)
    rw [show (512 * 0 + 256 * 0 + 16 * (x : Int) + (y : Int)) = ((16 * x + y : Nat) : Int) by omega]
    show bt (ld M0 5 _) t = true ↔ _
    rw [e5]
    constructor
    · intro w
      split at w
      · next c =>
        rw [bt_1, decide_eq_true_eq] at w
        refine ⟨0, 0, by omega, by omega, by rw [o1, decide_eq_true_eq]; omega, by rw [o2, decide_eq_true_eq]; omega, ?_⟩
        show bt (ld M0 3 (8 * (4 * 0 + ((0 : Nat) : Int)) + (4 * 0 + ((0 : Nat) : Int)))) t = true
        rw [show (8 * (4 * 0 + ((0 : Nat) : Int)) + (4 * 0 + ((0 : Nat) : Int))) = 0 by omega, t0, w]
        rfl
      · rw [bt_0] at w; cases w
    · rintro ⟨i, j, i1, j1, i2, j2, w⟩
      have w' : bt (ld M0 3 (8 * (4 * 0 + (i : Int)) + (4 * 0 + (j : Int)))) t = true := w
      rw [t3 _ (by omega) (by omega)] at w'
      split at w'
      · next c =>
        have i0 : i = 0 := by omega
        have j0 : j = 0 := by omega
        rw [i0, o1, decide_eq_true_eq] at i2
        rw [j0, o2, decide_eq_true_eq] at j2
        rw [if_pos ⟨by omega, by omega, by omega⟩]
        exact w'
      · rw [bt_0] at w'; cases w'
  · intro j j1 j2 j3
    obtain ⟨n, rfl⟩ := Int.eq_ofNat_of_zero_le j1
    rw [c5 n (by omega), if_neg (by omega)]
  · intro a b p1 p2 q1 q2
    rw [a5] at p2
    omega
  · intro a b c p1 p2 q1 q2 r1 r2
    rw [a5] at p2
    omega
  · intro a b p1 p2 q1 q2
    rw [a1] at p2 q2
    rw [show 8 * a + b = 0 by omega, t0, c94]
  · intro a b p1 p2 q1 q2
    rw [a5] at p2
    omega
theorem m0_kn : ∀ n : Nat, n < 3 → ld M0 62 (n : Int) = 0 := by decide +kernel
theorem ca_M0 : CA M0 := CAC.z (fun w w1 w2 => by
  obtain ⟨n, rfl⟩ := Int.eq_ofNat_of_zero_le w1
  exact m0_kn n (by omega))
theorem m0_fk : ld M0 65 6 = 0 ∧ ld M0 65 8 = 0 ∧ ld M0 65 9 = 0 := by decide +kernel
theorem fk_M0 : FK M0 := FCC.z m0_fk
theorem un_M0 : UN M0 := by
  obtain ⟨h2, h8, h93, h100, h108, h112, h65, a1, a2, a3, a4, a5, a6, a7, a8, h20, b1, b2, b3, b4⟩ := m0_all
  obtain ⟨c5, c3, c94⟩ := m0_tri
  have t0 : ld M0 3 0 = 1 := c3 0 (by omega)
  refine ⟨fun b q1 q2 => ?_, fun b q1 q2 => ?_⟩
  · rw [a1] at q2
    rw [show b = 0 by omega, show (8 : Int) * 0 + 0 = 0 by omega, t0]
    decide
  · rw [a5] at q2
    omega
theorem goE {k1 k2 : Nat} {a1 a2 : List yV} {M : yM} {G : xH → Prop} (k : ∀ M2, INV4 M2 → G (hp M2)) (p : XCi 40 k1 a1 M (fun v M1 => XCi 40 k2 a2 M1 (fun w M2 => v = w ∧ INV4 M2))) : RCi 40 k1 a1 (hp M) (fun v h1 => RCi 40 k2 a2 h1 (fun w h2 => v = w ∧ G h2)) :=
  RCi.of p (fun v M1 q => RCi.of q (fun w M2 q => ⟨q.1, k M2 q.2⟩))
theorem goT {k1 k2 : Nat} {a1 a2 : List yV} {M : yM} {G : xH → Prop} (k : ∀ M2, INV4 M2 → G (hp M2)) (p : XCi 40 k1 a1 M (fun v M1 => XCi 40 k2 a2 M1 (fun w M2 => v = w ∧ INV4 M2))) : RCi 40 k1 a1 (hp M) (fun v h1 => RCi 40 k2 a2 h1 (fun w h2 => True ∧ G h2)) :=
  RCi.of p (fun v M1 q => RCi.of q (fun w M2 q => ⟨trivial, k M2 q.2⟩))
theorem goQ {k1 k2 : Nat} {a1 a2 : List yV} {M : yM} {G : xH → Prop} (k : ∀ M2, INV4 M2 → G (hp M2)) (p : XCi 40 k1 a1 M (fun v M1 => XCi 40 k2 a2 M1 (fun w M2 => INV4 M2))) : RCi 40 k1 a1 (hp M) (fun v h1 => RCi 40 k2 a2 h1 (fun w h2 => True ∧ G h2)) :=
  RCi.of p (fun v M1 q => RCi.of q (fun w M2 q => ⟨trivial, k M2 q⟩))
theorem goL {k1 k2 : Nat} {a1 a2 : List yV} {M : yM} {G : xH → Prop} (k : ∀ M2, INV4 M2 → G (hp M2)) (p : XCl 40 k1 a1 M (fun v M1 => XCl 40 k2 a2 M1 (fun w M2 => INV4 M2))) : RCl 40 k1 a1 (hp M) (fun v h1 => RCl 40 k2 a2 h1 (fun w h2 => True ∧ G h2)) :=
  RCl.of p (fun v M1 q => RCl.of q (fun w M2 q => ⟨trivial, k M2 q⟩))
theorem law_loop {b N : Nat} {xs : Nat → Int32} (hN : N ≤ 100000) : ∀ (m : Nat) (i : Int) (M : yM), INV4 M → 0 ≤ i → i ≤ N → (N : Int) - i ≤ m → LR b N xs kL_law 41 (fun v h => v = 1 ∧ small h) 18 [some (.inr (.inr 500)), some (.inr (.inr 0)), some (.inr (.inr 92)), some (.inl i)] [] (hp M) := by
  intro m
  induction m using Nat.strongRecOn with
  | ind m ih =>
    intro i M hM h0 h1 hm
    by_cases h5 : i + 5 ≤ N
    · have hi : 0 ≤ i ∧ i + 5 ≤ N := ⟨h0, h5⟩
      have go : ∀ M2, INV4 M2 → LR b N xs kL_law 41 (fun v h => v = 1 ∧ small h) 18 [some (.inr (.inr 500)), some (.inr (.inr 0)), some (.inr (.inr 92)), some (.inl (i + 5))] [] (hp M2) := fun M2 h2 => ih (m - 5) (by omega) (i + 5) M2 h2 (by omega) h5 (by omega)
      refine lw_body hi hN (fun _ => ?_) (fun _ => ?_) (fun _ => ?_) (fun _ => ?_) (fun _ => ?_) (fun _ => ?_) (fun _ => ?_) (fun _ => ?_) (fun _ => ?_) (fun _ => ?_) (fun _ => ?_) (fun _ => ?_) (fun _ => ?_) (fun _ => ?_) (fun _ => ?_) (fun _ => ?_) (fun _ => ?_) (fun _ => ?_) (fun _ => ?_) (fun _ => ?_) (fun _ => ?_) (fun _ => ?_) (fun _ => ?_) (fun _ => ?_) (fun _ => ?_) ?_
      · exact lw_c0 hi hN (goT go (p_kinds hM (rng_toInt _)))
      · exact lw_c1 hi hN (goT go (p_turn hM (rng_toInt _) (rng_toInt _)))
      · exact lw_c2 hi hN (goT go (p_triangle hM (rng_toInt _) (rng_toInt _) (rng_toInt _) (rng_toInt _)))
      · exact lw_c3 hi hN (goT go (p_join hM (rng_toInt _) (rng_toInt _)))
      · exact lw_c4 hi hN (goT go (p_turned hM (rng_toInt _)))
      · exact lw_c5 hi hN (goT go (p_fault hM))
      · exact lw_c6 hi hN (goT go (p_fuse hM (rng_toInt _) (rng_toInt _)))
      · exact lw_c7 hi hN (goT go (p_keep hM))
      · exact lw_c8 hi hN (goT go (p_shelf hM (rng_toInt _)))
      · exact lw_c9 hi hN (goT go (p_points hM (rng_toInt _)))
      · exact lw_c10 hi hN (goT go (p_tell hM (rng_toInt _) (rng_toInt _) (rng_toInt _)))
      · exact lw_c11 hi hN (goT go (p_narrow hM (rng_toInt _) (rng_toInt _) (rng_toInt _)))
      · exact lw_c12 hi hN (goT go (p_isVoid hM (rng_toInt _)))
      · exact lw_c13 hi hN (goE go (p_fillings hM (rng_toInt _)))
      · exact lw_c14 hi hN (goT go (p_first hM (rng_toInt _) (rng_toInt _)))
      · exact lw_c15 hi hN (goT go (p_sure hM (rng_toInt _) (rng_toInt _)))
      · exact lw_c16 hi hN (goQ go (p_reason hM (rng_toInt _)))
      · exact lw_c17 hi hN (goQ go (p_type hM (rng_toInt _)))
      · exact lw_c18 hi hN (goQ go (p_clear hM))
      · exact lw_c19 hi hN (goQ go (p_read hM (rng_toInt _)))
      · exact lw_c20 hi hN (goQ go (p_value hM (rng_toInt _) (rng_toInt _) (rng_toInt _) (rng_toInt _)))
      · exact lw_c21 hi hN (goQ go (p_against hM (rng_toInt _) (rng_toInt _)))
      · exact lw_c22 hi hN (goQ go (p_carried hM (rng_toInt _) (rng_toInt _)))
      · exact lw_c23 hi hN (goQ go (p_count hM (rng_toInt _)))
      · exact lw_c24 hi hN (goL go (p_trace hM))
      · exact lw_df (go M hM)
    · exact lw_end (by omega) hN ⟨rfl, small_hp M⟩
theorem xlaw_holds : xLaw := by
  intro b N xs hN
  have main : LR b N xs kL_law 41 (fun v h => v = 1 ∧ small h) 0 [some (.inr (.inr 500)), none, none, none] [] [] := by
    refine lw_start ?_
    rw [← hp_M0]
    exact law_loop (by omega) N 0 M0 ⟨⟨⟨inv_M0, tx_M0⟩, ca_M0⟩, fk_M0, un_M0⟩ (by omega) (by omega) (by omega)
  obtain ⟨n, v, h', h1, rfl, h2⟩ := main
  exact ⟨n, 41, h', h1, by omega, h2.1, h2.2⟩
