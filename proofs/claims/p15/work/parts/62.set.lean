/-! ONE PASS -/
theorem emB_f {n : Int} {N : Int → Int} (hn : n ≤ 8) (h : ∀ i c : Int, 0 ≤ i → i < c → c < n → N (8 * i + c) ≠ 0) : emB n N = false := by
  cases e : emB n N with
  | false => rfl
  | true =>
    obtain ⟨i, c, h1, h2, h3, h4⟩ := (emB_iff hn).mp e
    exact absurd h4 (h i c h1 h2 h3)
def pi2 (a b : Int) : Int := if a < b then 8 * a + b else 8 * b + a
theorem pi2_c (a b : Int) : pi2 a b = pi2 b a := by
  unfold pi2
  split <;> split <;> omega
/-- what a pass leaves: X' of X -/
def PSp (T f : Int → Int) (k : Int) (X X' : Int → Int) (i j c v : Int) : Prop := v = -1 ∧ stp T k X i j c = X (8 * i + c) ∧ X' = X ∨ v = stp T k X i j c ∧ stp T k X i j c ≠ X (8 * i + c) ∧ X' = up2 X i c (stp T k X i j c) (tP f k (stp T k X i j c))
section
variable {T f : Int → Int} {k n : Int} {X X' : Int → Int} {i j c v : Int}
theorem PSp.sn (h : PSp T f k X X' i j c v) (hT : TH T f k) (hn : n ≤ 8) (hX : SN f k n X) (hi : 0 ≤ i ∧ i < n) (hc : 0 ≤ c ∧ c < n) (ic : i ≠ c) : SN f k n X' := by
  rcases h with ⟨_, _, e⟩ | ⟨_, _, e⟩
  · rw [e]; exact hX
  · rw [e]; exact hX.up hT.1 hT.2.1 hn hi hc ic (stp_se hT.1 hX hi hc ic)
theorem PSp.at (h : PSp T f k X X' i j c v) (hi : 0 ≤ i ∧ i < 8) (hc : 0 ≤ c ∧ c < 8) (ic : i ≠ c) {p q : Int} (hp : 0 ≤ p ∧ p < 8) (hq : 0 ≤ q ∧ q < 8) (h1 : ¬ (p = i ∧ q = c)) (h2 : ¬ (p = c ∧ q = i)) : X' (8 * p + q) = X (8 * p + q) := by
  rcases h with ⟨_, _, e⟩ | ⟨_, _, e⟩
  · rw [e]
  · rw [e, up2_at hi hc hp hq, if_neg h2, if_neg h1]
theorem PSp.it (h : PSp T f k X X' i j c v) (hi : 0 ≤ i ∧ i < 8) (hc : 0 ≤ c ∧ c < 8) (ic : i ≠ c) : X' (8 * i + c) = stp T k X i j c := by
  rcases h with ⟨_, e1, e⟩ | ⟨_, _, e⟩
  · rw [e, e1]
  · rw [e, up2_at hi hc hi hc, if_neg (fun q => ic q.1), if_pos ⟨rfl, rfl⟩]
theorem PSp.sb (h : PSp T f k X X' i j c v) (hT : TH T f k) (hn : n ≤ 8) (hX : SN f k n X) (hi : 0 ≤ i ∧ i < n) (hj : 0 ≤ j ∧ j < n) (hc : 0 ≤ c ∧ c < n) (ij : i ≠ j) (jc : j ≠ c) (ic : i ≠ c) : Sb n X' X ∧ ∀ Y, SN f k n Y → Cl T k n Y → Sb n Y X → Sb n Y X' := by
  rcases h with ⟨_, _, e⟩ | ⟨_, _, e⟩
  · rw [e]; exact ⟨Sb.rf hT.1 hX, fun Y _ _ w => w⟩
  · rw [e]; exact ⟨Sb.down hT hn hX hi hc ic, fun Y hY hC w => Sb.step hT hn hX hY hC w hi hj hc ij jc ic⟩
theorem PSp.pc (h : PSp T f k X X' i j c v) (hT : TH T f k) (hn : n ≤ 8) (hX : SN f k n X) (hi : 0 ≤ i ∧ i < n) (hc : 0 ≤ c ∧ c < n) (ic : i ≠ c) : (v = -1 ∧ X' = X) ∨ (0 ≤ v ∧ pcs n X' < pcs n X) := by
  rcases h with ⟨e0, _, e⟩ | ⟨e0, e1, e⟩
  · exact Or.inl ⟨e0, e⟩
  · have ss := stp_se (T := T) (j := j) hT.1 hX hi hc ic
    refine Or.inr ⟨by rw [e0]; exact ss.1, ?_⟩
    rw [e]
    rcases Int.lt_or_gt_of_ne ic with w | w
    · exact pcs_up (f := f) hT.1 hn hi.1 w hc.2 (hX i c hi.1 hi.2 hc.1 hc.2 ic).1 (yand_subl _ _) (rng_yand _ _) e1
    · have o := hX i c hi.1 hi.2 hc.1 hc.2 ic
      have e2 : up2 X i c (stp T k X i j c) (tP f k (stp T k X i j c)) = up2 X c i (tP f k (stp T k X i j c)) (stp T k X i j c) := funext fun x => by
        unfold up2
        by_cases q : x = 8 * c + i
        · rw [if_pos q, if_neg (by omega), if_pos q]
        · rw [if_neg q]
          by_cases q2 : x = 8 * i + c
          · rw [if_pos q2, if_pos q2]
          · rw [if_neg q2, if_neg q2, if_neg q]
      rw [e2]
      refine pcs_up (f := f) hT.1 hn hc.1 w hi.2 (by rw [o.2]; exact tP_se hT.1 hT.2.1 o.1) (by rw [o.2]; exact tP_mono hT.1 hT.2.1 ss o.1 (yand_subl _ _)) (tOf_rng _ _ _) (fun q => e1 ?_)
      rw [o.2] at q
      rw [← tP_tP hT.1 hT.2.1 ss, q, tP_tP hT.1 hT.2.1 o.1]
theorem PSp.ne (h : PSp T f k X X' i j c v) (hT : TH T f k) (hn : n ≤ 8) (hX : SN f k n X) (hN : Ne n X) (hi : 0 ≤ i ∧ i < n) (hc : 0 ≤ c ∧ c < n) (ic : i ≠ c) (hv : v ≠ 0) : Ne n X' := by
  rcases h with ⟨_, _, e⟩ | ⟨e0, _, e⟩
  · rw [e]; exact hN
  · have ss := stp_se (T := T) (j := j) hT.1 hX hi hc ic
    intro p q p1 p2 q1 q2 pq
    rw [e, up2_at (by omega) (by omega) (by omega) (by omega)]
    split
    · intro w
      exact hv (by rw [e0]; exact (tP_0 hT.1 hT.2.1 ss).mp w)
    · split
      · rw [← e0]; exact hv
      · exact hN p q p1 p2 q1 q2 pq
theorem PSp.sm (h : PSp T f k X X' i j c v) (hT : TH T f k) (hn : n ≤ 8) (hX : SN f k n X) (hi : 0 ≤ i ∧ i < n) (hc : 0 ≤ c ∧ c < n) (ic : i ≠ c) (hv : v ≠ 0) {p q : Int} (h1 : 0 ≤ p) (h2 : p < n) (h3 : 0 ≤ q) (h4 : q < n) (h5 : 0 < v → pi2 p q ≠ pi2 i c) : X' (8 * p + q) = X (8 * p + q) := by
  rcases h.pc hT hn hX hi hc ic with ⟨_, e⟩ | ⟨w, _⟩
  · rw [e]
  · have h6 := h5 (by omega)
    exact h.at (by omega) (by omega) ic (by omega) (by omega) (fun q => h6 (by rw [q.1, q.2])) (fun q => h6 (by rw [q.1, q.2, pi2_c]))
theorem PSp.em (h : PSp T f k X X' i j c v) (hi : 0 ≤ i ∧ i < 8) (hc : 0 ≤ c ∧ c < 8) (ic : i ≠ c) (hv : v = 0) : X' (8 * i + c) = 0 := by
  rw [h.it hi hc ic]
  rcases h with ⟨e0, _⟩ | ⟨e0, _⟩
  · omega
  · rw [← e0]; exact hv
end
/-- no closed net without an empty set lies within -/
theorem no_good {T f : Int → Int} {k n : Int} {X : Int → Int} (hT : TH T f k) {i c : Int} (hi : 0 ≤ i ∧ i < n) (hc : 0 ≤ c ∧ c < n) (ic : i ≠ c) (e : X (8 * i + c) = 0) : ¬ Good T f k n X := by
  rintro ⟨Y, hY, hC, hN, hs⟩
  have w := hs i c hi.1 hi.2 hc.1 hc.2 ic
  rw [e] at w
  exact hN i c hi.1 hi.2 hc.1 hc.2 ic (sub_0 ((hY i c hi.1 hi.2 hc.1 hc.2 ic).1.y hT.1) w)
theorem good_dn {T f : Int → Int} {k n : Int} {X X' : Int → Int} (h : ∀ Y, SN f k n Y → Cl T k n Y → Sb n Y X → Sb n Y X') (hg : ¬ Good T f k n X') : ¬ Good T f k n X := fun ⟨Y, hY, hC, hN, hs⟩ => hg ⟨Y, hY, hC, hN, h Y hY hC hs⟩
/-! PAIRS TO BE LOOKED AT -/
theorem pi2_r {a b : Int} (ha : 0 ≤ a ∧ a < 8) (hb : 0 ≤ b ∧ b < 8) : 0 ≤ pi2 a b ∧ pi2 a b < 64 := by
  unfold pi2
  split <;> omega
theorem pi2_i {a b c d : Int} (ha : 0 ≤ a ∧ a < 8) (hb : 0 ≤ b ∧ b < 8) (hc : 0 ≤ c ∧ c < 8) (hd : 0 ≤ d ∧ d < 8) (h : pi2 a b = pi2 c d) : a = c ∧ b = d ∨ a = d ∧ b = c := by
  unfold pi2 at h
  split at h <;> split at h <;> omega
/-- what is told of a long: the pairs that are marked -/
def VS (T : Int → Int) (k n : Int) (X : Int → Int) (D : Int → Bool) : Prop := ∀ a b c : Int, 0 ≤ a → a < n → 0 ≤ b → b < n → 0 ≤ c → c < n → a ≠ b → b ≠ c → a ≠ c → D (pi2 a b) = false → D (pi2 b c) = false → stp T k X a b c = X (8 * a + c)
def VSe (T : Int → Int) (k n : Int) (X : Int → Int) (D : Int → Bool) (i l m : Int) : Prop := ∀ a b c : Int, 0 ≤ a → a < n → 0 ≤ b → b < n → 0 ≤ c → c < n → a ≠ b → b ≠ c → a ≠ c → D (pi2 a b) = false → D (pi2 b c) = false → ¬ ((a = i ∧ b = l ∨ a = l ∧ b = i) ∧ m ≤ c) → ¬ ((b = i ∧ c = l ∨ b = l ∧ c = i) ∧ m ≤ a) → stp T k X a b c = X (8 * a + c)
theorem VSe.end {T : Int → Int} {k n : Int} {X : Int → Int} {D : Int → Bool} {i l m : Int} (h : VSe T k n X D i l m) (hm : n ≤ m) : VS T k n X D := fun a b c a1 a2 b1 b2 c1 c2 ab bc ac d1 d2 => h a b c a1 a2 b1 b2 c1 c2 ab bc ac d1 d2 (fun q => by omega) (fun q => by omega)
theorem VS.pop {T : Int → Int} {k n : Int} {X : Int → Int} {D D' : Int → Bool} {i l : Int} (hn : n ≤ 8) (h : VS T k n X D) (hi : 0 ≤ i ∧ i < 8) (hl : 0 ≤ l ∧ l < 8) (hD : ∀ p : Int, 0 ≤ p → p < 64 → D' p = (D p && !decide (p = pi2 i l))) : VSe T k n X D' i l 0 := fun a b c a1 a2 b1 b2 c1 c2 ab bc ac d1 d2 n1 n2 => by
  have r1 := pi2_r (a := a) (b := b) (by omega) (by omega)
  have r2 := pi2_r (a := b) (b := c) (by omega) (by omega)
  rw [hD _ r1.1 r1.2] at d1
  rw [hD _ r2.1 r2.2] at d2
  refine h a b c a1 a2 b1 b2 c1 c2 ab bc ac ?_ ?_
  · by_cases q : pi2 a b = pi2 i l
    · exact absurd ⟨by have := pi2_i (by omega) (by omega) hi hl q; omega, c1⟩ n1
    · rw [decide_eq_false q] at d1
      simpa using d1
  · by_cases q : pi2 b c = pi2 i l
    · exact absurd ⟨by have := pi2_i (by omega) (by omega) hi hl q; omega, a1⟩ n2
    · rw [decide_eq_false q] at d2
      simpa using d2
section
variable {T f : Int → Int} {k n : Int} {X X1 X2 : Int → Int} {i l m v1 v2 : Int}
theorem two_one (hT : TH T f k) (hn : n ≤ 8) (hX : SN f k n X) (hi : 0 ≤ i ∧ i < n) (hl : 0 ≤ l ∧ l < n) (hm : 0 ≤ m ∧ m < n) (il : i ≠ l) (im : i ≠ m) (lm : l ≠ m) (s1 : PSp T f k X X1 i l m v1) (s2 : PSp T f k X1 X2 l i m v2) (z1 : v1 ≠ 0) (z2 : v2 ≠ 0) (q1 : 0 < v1 → pi2 l m ≠ pi2 i m) (q2 : 0 < v2 → pi2 l m ≠ pi2 l m) : stp T k X2 i l m = X2 (8 * i + m) := by
  have i8 : 0 ≤ i ∧ i < 8 := ⟨hi.1, by omega⟩
  have l8 : 0 ≤ l ∧ l < 8 := ⟨hl.1, by omega⟩
  have m8 : 0 ≤ m ∧ m < 8 := ⟨hm.1, by omega⟩
  have sn1 := s1.sn hT hn hX hi hm im
  have c1 : X2 (8 * l + m) = X (8 * l + m) := (s2.sm hT hn sn1 hl hm lm z2 hl.1 hl.2 hm.1 hm.2 q2).trans (s1.sm hT hn hX hi hm im z1 hl.1 hl.2 hm.1 hm.2 q1)
  have c2 : X2 (8 * i + l) = X (8 * i + l) := (s2.at l8 m8 lm i8 l8 (fun w => il w.1) (fun w => im w.1)).trans (s1.at i8 m8 im i8 l8 (fun w => lm w.2) (fun w => im w.1))
  have c3 : X2 (8 * i + m) = stp T k X i l m := (s2.at l8 m8 lm i8 m8 (fun w => il w.1) (fun w => im w.1)).trans (s1.it i8 m8 im)
  show yand (X2 (8 * i + m)) (jP T k (X2 (8 * i + l)) (X2 (8 * l + m))) = X2 (8 * i + m)
  rw [c1, c2, c3]
  exact yand_subr _ _
theorem two_two (hT : TH T f k) (hn : n ≤ 8) (hX : SN f k n X) (hi : 0 ≤ i ∧ i < n) (hl : 0 ≤ l ∧ l < n) (hm : 0 ≤ m ∧ m < n) (il : i ≠ l) (im : i ≠ m) (lm : l ≠ m) (s1 : PSp T f k X X1 i l m v1) (s2 : PSp T f k X1 X2 l i m v2) (z2 : v2 ≠ 0) (q2 : 0 < v2 → pi2 i m ≠ pi2 l m) : stp T k X2 l i m = X2 (8 * l + m) := by
  have i8 : 0 ≤ i ∧ i < 8 := ⟨hi.1, by omega⟩
  have l8 : 0 ≤ l ∧ l < 8 := ⟨hl.1, by omega⟩
  have m8 : 0 ≤ m ∧ m < 8 := ⟨hm.1, by omega⟩
  have sn1 := s1.sn hT hn hX hi hm im
  have c1 : X2 (8 * i + m) = X1 (8 * i + m) := s2.sm hT hn sn1 hl hm lm z2 hi.1 hi.2 hm.1 hm.2 q2
  have c2 : X2 (8 * l + i) = X1 (8 * l + i) := s2.at l8 m8 lm l8 i8 (fun w => im w.2) (fun w => lm w.1)
  have c3 : X2 (8 * l + m) = stp T k X1 l i m := s2.it l8 m8 lm
  show yand (X2 (8 * l + m)) (jP T k (X2 (8 * l + i)) (X2 (8 * i + m))) = X2 (8 * l + m)
  rw [c1, c2, c3]
  exact yand_subr _ _
theorem two_keep (hT : TH T f k) (hn : n ≤ 8) (hX : SN f k n X) (hi : 0 ≤ i ∧ i < n) (hl : 0 ≤ l ∧ l < n) (hm : 0 ≤ m ∧ m < n) (il : i ≠ l) (im : i ≠ m) (lm : l ≠ m) (s1 : PSp T f k X X1 i l m v1) (s2 : PSp T f k X1 X2 l i m v2) (z1 : v1 ≠ 0) (z2 : v2 ≠ 0) {a b c : Int} (ha : 0 ≤ a ∧ a < n) (hb : 0 ≤ b ∧ b < n) (hc : 0 ≤ c ∧ c < n) (ac : a ≠ c) (e2 : 0 < v1 → pi2 a b ≠ pi2 i m) (e3 : 0 < v2 → pi2 a b ≠ pi2 l m) (g2 : 0 < v1 → pi2 b c ≠ pi2 i m) (g3 : 0 < v2 → pi2 b c ≠ pi2 l m) (q : stp T k X a b c = X (8 * a + c)) : stp T k X2 a b c = X2 (8 * a + c) := by
  have sn1 := s1.sn hT hn hX hi hm im
  have sn2 := s2.sn hT hn sn1 hl hm lm
  have b1 := (s1.sb hT hn hX hi hl hm il lm im).1
  have b2 := (s2.sb hT hn sn1 hl hi hm (fun w => il w.symm) im lm).1
  have sAB : X2 (8 * a + b) = X (8 * a + b) := (s2.sm hT hn sn1 hl hm lm z2 ha.1 ha.2 hb.1 hb.2 e3).trans (s1.sm hT hn hX hi hm im z1 ha.1 ha.2 hb.1 hb.2 e2)
  have sBC : X2 (8 * b + c) = X (8 * b + c) := (s2.sm hT hn sn1 hl hm lm z2 hb.1 hb.2 hc.1 hc.2 g3).trans (s1.sm hT hn hX hi hm im z1 hb.1 hb.2 hc.1 hc.2 g2)
  have y2 := (sn2 a c ha.1 ha.2 hc.1 hc.2 ac).1.y hT.1
  have w := sub_tr y2 (b2 a c ha.1 ha.2 hc.1 hc.2 ac) (b1 a c ha.1 ha.2 hc.1 hc.2 ac)
  unfold stp at q ⊢
  rw [sAB, sBC]
  exact sub_tr y2 w q
end
/-- both passes at m -/
theorem VSe.go {T f : Int → Int} {k n : Int} {X X1 X2 : Int → Int} {D D' : Int → Bool} {i l m v1 v2 : Int} (hT : TH T f k) (hn : n ≤ 8) (hX : SN f k n X) (h : VSe T k n X D i l m) (hi : 0 ≤ i ∧ i < n) (hl : 0 ≤ l ∧ l < n) (hm : 0 ≤ m ∧ m < n) (il : i ≠ l) (mi : m ≠ i) (ml : m ≠ l) (s1 : PSp T f k X X1 i l m v1) (s2 : PSp T f k X1 X2 l i m v2) (hD : ∀ p : Int, 0 ≤ p → p < 64 → D' p = false → D p = false ∧ (0 < v1 → p ≠ pi2 i m) ∧ (0 < v2 → p ≠ pi2 l m)) (z1 : v1 ≠ 0) (z2 : v2 ≠ 0) : VSe T k n X2 D' i l (m + 1) := fun a b c a1 a2 b1 b2 c1 c2 ab bc ac d1 d2 n1 n2 => by
  have h8 : ∀ p : Int, 0 ≤ p ∧ p < n → 0 ≤ p ∧ p < 8 := fun p hp => ⟨hp.1, by omega⟩
  have ha : 0 ≤ a ∧ a < n := ⟨a1, a2⟩
  have hb : 0 ≤ b ∧ b < n := ⟨b1, b2⟩
  have hc : 0 ≤ c ∧ c < n := ⟨c1, c2⟩
  have r1 := pi2_r (h8 a ha) (h8 b hb)
  have r2 := pi2_r (h8 b hb) (h8 c hc)
  obtain ⟨e1, e2, e3⟩ := hD _ r1.1 r1.2 d1
  obtain ⟨g1, g2, g3⟩ := hD _ r2.1 r2.2 d2
  have im : i ≠ m := fun w => mi w.symm
  have lm : l ≠ m := fun w => ml w.symm
  have li : l ≠ i := fun w => il w.symm
  have sn2 := s2.sn hT hn (s1.sn hT hn hX hi hm im) hl hm lm
  have one : D' (pi2 l m) = false → stp T k X2 i l m = X2 (8 * i + m) := fun q => by
    have hq := hD _ (pi2_r (h8 l hl) (h8 m hm)).1 (pi2_r (h8 l hl) (h8 m hm)).2 q
    exact two_one hT hn hX hi hl hm il im lm s1 s2 z1 z2 hq.2.1 hq.2.2
  have two : D' (pi2 i m) = false → stp T k X2 l i m = X2 (8 * l + m) := fun q => by
    have hq := hD _ (pi2_r (h8 i hi) (h8 m hm)).1 (pi2_r (h8 i hi) (h8 m hm)).2 q
    exact two_two hT hn hX hi hl hm il im lm s1 s2 z2 hq.2.2
  by_cases q1 : (a = i ∧ b = l ∨ a = l ∧ b = i) ∧ m ≤ c
  · by_cases ec : c = m
    · subst ec
      rcases q1.1 with ⟨rfl, rfl⟩ | ⟨rfl, rfl⟩
      · exact one d2
      · exact two d2
    · exact absurd ⟨q1.1, by have := q1.2; omega⟩ n1
  · by_cases q2 : (b = i ∧ c = l ∨ b = l ∧ c = i) ∧ m ≤ a
    · by_cases ea : a = m
      · subst ea
        rcases q2.1 with ⟨rfl, rfl⟩ | ⟨rfl, rfl⟩
        · exact stp_t hT sn2 hl hi hm li im lm (two (by rw [pi2_c]; exact d1))
        · exact stp_t hT sn2 hi hl hm il lm im (one (by rw [pi2_c]; exact d1))
      · exact absurd ⟨q2.1, by have := q2.2; omega⟩ n2
    · exact two_keep hT hn hX hi hl hm il im lm s1 s2 z1 z2 ha hb hc ac e2 e3 g2 g3 (h a b c a1 a2 b1 b2 c1 c2 ab bc ac e1 g1 q1 q2)
theorem VSe.sk {T : Int → Int} {k n : Int} {X : Int → Int} {D : Int → Bool} {i l m : Int} (h : VSe T k n X D i l m) (hm : m = i ∨ m = l) : VSe T k n X D i l (m + 1) := fun a b c a1 a2 b1 b2 c1 c2 ab bc ac d1 d2 n1 n2 => h a b c a1 a2 b1 b2 c1 c2 ab bc ac d1 d2 (fun q => n1 ⟨q.1, by omega⟩) (fun q => n2 ⟨q.1, by omega⟩)
theorem VS.cl {T : Int → Int} {k n : Int} {X : Int → Int} {D : Int → Bool} (h : VS T k n X D) (hD : ∀ p : Int, D p = false) : Cl T k n X := fun a b c a1 a2 b1 b2 c1 c2 ab bc ac => h a b c a1 a2 b1 b2 c1 c2 ab bc ac (hD _) (hD _)
/-- how many are marked -/
def tcn (n : Int) (D : Int → Bool) : Int := ms n (fun a c => if D (8 * a + c) = true then 1 else 0) up28
theorem tcn_b (n : Int) (D : Int → Bool) : 0 ≤ tcn n D ∧ tcn n D ≤ 28 := by
  refine ⟨ms_nn _ (fun p _ _ => by split <;> omega), ?_⟩
  have h1 : ∀ (l : List (Int × Int)), ms n (fun a c => if D (8 * a + c) = true then 1 else 0) l ≤ 1 * l.length := by
    intro l
    induction l with
    | nil => exact Int.le_refl _
    | cons p r ih =>
      simp only [ms, List.length_cons]
      split
      · split <;> omega
      · omega
  have h2 := h1 up28
  rw [up28_len] at h2
  unfold tcn
  omega
theorem ms_1 {n : Int} {f g : Int → Int → Int} (p0 : Int × Int) : ∀ (l : List (Int × Int)), l.Nodup → (∀ p ∈ l, p ≠ p0 → g p.1 p.2 ≤ f p.1 p.2) → (g p0.1 p0.2 ≤ f p0.1 p0.2 + 1) → ms n g l ≤ ms n f l + 1
  | [], _, _, _ => by simp only [ms]; omega
  | p :: r, hd, h, h0 => by
    have hd' := List.nodup_cons.mp hd
    simp only [ms]
    by_cases e : p = p0
    · have lt := ms_le (n := n) (f := f) (g := g) r (fun q hq _ => h q (List.mem_cons_of_mem _ hq) (fun w => hd'.1 (by rw [e, ← w]; exact hq)))
      rw [e]
      split <;> omega
    · have ih := ms_1 (n := n) p0 r hd'.2 (fun q hq => h q (List.mem_cons_of_mem _ hq)) h0
      have := h p List.mem_cons_self e
      split <;> omega
theorem up28_nd : up28.Nodup := by decide +kernel
theorem tcn_or {n : Int} {D D' : Int → Bool} {q : Int} (hq : ∃ p ∈ up28, 8 * p.1 + p.2 = q) (h : ∀ p : Int, 0 ≤ p → p < 64 → p ≠ q → D' p = D p) : tcn n D' ≤ tcn n D + 1 := by
  obtain ⟨p0, hp0, rfl⟩ := hq
  refine ms_1 p0 up28 up28_nd (fun p hp hne => ?_) (by split <;> split <;> omega)
  have a := up28_of p hp
  have b := up28_of p0 hp0
  rw [h _ (by omega) (by omega) (fun e => hne (Prod.ext (by omega) (by omega)))]
  exact Int.le_refl _
theorem tcn_pop {n : Int} {D D' : Int → Bool} {i c : Int} (hi : 0 ≤ i ∧ i < c ∧ c < n ∧ n ≤ 8) (hD : D (8 * i + c) = true) (h : ∀ p : Int, 0 ≤ p → p < 64 → D' p = (D p && !decide (p = 8 * i + c))) : tcn n D' < tcn n D := by
  have m := up28_in c.toNat (by omega) i.toNat (by omega)
  rw [show ((i.toNat : Nat) : Int) = i by omega, show ((c.toNat : Nat) : Int) = c by omega] at m
  refine ms_lt _ (fun p hp hn => ?_) ⟨(i, c), m, hi.2.2.1, ?_⟩
  · have a := up28_of p hp
    show (if D' (8 * p.1 + p.2) = true then (1 : Int) else 0) ≤ (if D (8 * p.1 + p.2) = true then (1 : Int) else 0)
    rw [h _ (by omega) (by omega)]
    cases D (8 * p.1 + p.2) <;> simp <;> split <;> omega
  · show (if D' (8 * i + c) = true then (1 : Int) else 0) < (if D (8 * i + c) = true then (1 : Int) else 0)
    rw [h _ (by omega) (by omega), hD]
    simp
def TV (n : Int) (D : Int → Bool) : Prop := ∀ p : Int, 0 ≤ p → p < 64 → D p = true → ∃ a c : Int, 0 ≤ a ∧ a < c ∧ c < n ∧ p = 8 * a + c
/-! TRYING -/
def sng (f : Int → Int) (k : Int) (N : Int → Int) (i c a : Int) : Int → Int := up2 N i c (yshl 1 a) (tP f k (yshl 1 a))
def rmv (f : Int → Int) (k : Int) (N : Int → Int) (i c a : Int) : Int → Int := up2 N i c (yand (N (8 * i + c)) (yxor (yshl 1 a) (-1))) (tP f k (yand (N (8 * i + c)) (yxor (yshl 1 a) (-1))))
/-- with it alone some set is left empty -/
def rfB (T f : Int → Int) (k n : Int) (N : Int → Int) (i c a : Int) : Bool := emB n (fullP T f k n (sng f k N i c a))
def goX (T f : Int → Int) (k n : Int) (N : Int → Int) : List (Int × Int × Int) → (Int → Int) × Bool
  | [] => (N, false)
  | (i, c, a) :: r => if emB n N = true then (N, false) else if yand (yshr (N (8 * i + c)) a) 1 = 1 ∧ rfB T f k n N i c a = true then ((goX T f k n (rmv f k N i c a) r).1, true) else goX T f k n N r
def pA (i c : Int) : Nat → Int → List (Int × Int × Int)
  | 0, _ => []
  | m + 1, a => (i, c, a) :: pA i c m (a + 1)
def pC (k n i : Int) : Nat → Int → List (Int × Int × Int)
  | 0, _ => []
  | m + 1, c => pA i c k.toNat 0 ++ pC k n i m (c + 1)
def pI (k n : Int) : Nat → Int → List (Int × Int × Int)
  | 0, _ => []
  | m + 1, i => pC k n i (n - (i + 1)).toNat (i + 1) ++ pI k n m (i + 1)
def qI (n k i : Int) : List (Int × Int × Int) := pI k n (n - i).toNat i
def qC (n k i c : Int) : List (Int × Int × Int) := pC k n i (n - c).toNat c ++ qI n k (i + 1)
def qA (n k i c a : Int) : List (Int × Int × Int) := pA i c (k - a).toNat a ++ qC n k i (c + 1)
theorem qI_s {n k i : Int} (h : i < n) : qI n k i = qC n k i (i + 1) := by
  unfold qI qC
  rw [show (n - i).toNat = (n - (i + 1)).toNat + 1 by omega]
  rfl
theorem qI_e {n k i : Int} (h : n ≤ i) : qI n k i = [] := by
  unfold qI
  rw [show (n - i).toNat = 0 by omega]
  rfl
theorem qC_s {n k i c : Int} (h : c < n) : qC n k i c = qA n k i c 0 := by
  unfold qC qA
  rw [show (n - c).toNat = (n - (c + 1)).toNat + 1 by omega, show (k - 0).toNat = k.toNat by omega]
  simp only [pC, List.append_assoc]
  rfl
theorem qC_e {n k i c : Int} (h : n ≤ c) : qC n k i c = qI n k (i + 1) := by
  unfold qC
  rw [show (n - c).toNat = 0 by omega]
  rfl
theorem qA_s {n k i c a : Int} (h : a < k) : qA n k i c a = (i, c, a) :: qA n k i c (a + 1) := by
  unfold qA
  rw [show (k - a).toNat = (k - (a + 1)).toNat + 1 by omega]
  rfl
theorem qA_e {n k i c a : Int} (h : k ≤ a) : qA n k i c a = qC n k i (c + 1) := by
  unfold qA
  rw [show (k - a).toNat = 0 by omega]
  rfl
theorem qA_n {n k i c a : Int} (h : k ≤ a) : qA n k i c (a + 1) = qA n k i c a := by
  rw [qA_e h, qA_e (by omega)]
theorem goX_em {T f : Int → Int} {k n : Int} {N : Int → Int} (h : emB n N = true) : ∀ l : List (Int × Int × Int), goX T f k n N l = (N, false)
  | [] => rfl
  | (i, c, a) :: r => by
    simp only [goX]
    rw [if_pos h]
/-- all that is tried, once -/
def Vq (n k : Int) (l : List (Int × Int × Int)) : Prop := ∀ t ∈ l, (0 ≤ t.1 ∧ t.1 < t.2.1 ∧ t.2.1 < n) ∧ 0 ≤ t.2.2 ∧ t.2.2 < k
theorem pA_v {n k i c : Int} (hi : 0 ≤ i ∧ i < c ∧ c < n) : ∀ (m : Nat) (a : Int), 0 ≤ a → a + m ≤ k → Vq n k (pA i c m a)
  | 0, _, _, _ => fun t h => absurd h List.not_mem_nil
  | m + 1, a, h1, h2 => fun t h => by
    rcases List.mem_cons.mp h with rfl | h
    · exact ⟨hi, h1, by dsimp only; omega⟩
    · exact pA_v hi m (a + 1) (by omega) (by omega) t h
theorem pC_v {n k i : Int} (hk : 0 ≤ k) (hi : 0 ≤ i) : ∀ (m : Nat) (c : Int), i < c → c + m ≤ n → Vq n k (pC k n i m c)
  | 0, _, _, _ => fun t h => absurd h List.not_mem_nil
  | m + 1, c, h1, h2 => fun t h => by
    rcases List.mem_append.mp h with h | h
    · exact pA_v ⟨hi, h1, by omega⟩ _ 0 (by omega) (by omega) t h
    · exact pC_v hk hi m (c + 1) (by omega) (by omega) t h
theorem pI_v {n k : Int} (hk : 0 ≤ k) : ∀ (m : Nat) (i : Int), 0 ≤ i → Vq n k (pI k n m i)
  | 0, _, _ => fun t h => absurd h List.not_mem_nil
  | m + 1, i, h1 => fun t h => by
    rcases List.mem_append.mp h with h | h
    · by_cases q : i + 1 ≤ n
      · exact pC_v hk h1 _ (i + 1) (by omega) (by omega) t h
      · rw [show (n - (i + 1)).toNat = 0 by omega] at h
        exact absurd h List.not_mem_nil
    · exact pI_v hk m (i + 1) (by omega) t h
theorem qI_v {n k : Int} (hk : 0 ≤ k) : Vq n k (qI n k 0) := pI_v hk _ 0 (by omega)
theorem rmv_se {k a x : Int} (hk : 1 ≤ k ∧ k ≤ 8) (h : Se k x) : Se k (yand x (yxor (yshl 1 a) (-1))) := se_and hk h
theorem rmv_ne {k a x : Int} (ha : 0 ≤ a ∧ a < 8) (hk : 1 ≤ k ∧ k ≤ 8) (hx : Se k x) (hb : yand (yshr x a) 1 = 1) : yand x (yxor (yshl 1 a) (-1)) ≠ x := by
  have h8 := al_le hk
  have := yand_drop (c := x) (a := a) (by omega) ha hb
  omega
theorem goX_ok {T f : Int → Int} {k n : Int} (hT : TH T f k) (hn : 0 ≤ n ∧ n ≤ 8) : ∀ (l : List (Int × Int × Int)) (N : Int → Int), Vq n k l → SN f k n N → SN f k n (goX T f k n N l).1 ∧ pcs n (goX T f k n N l).1 ≤ pcs n N ∧ ((goX T f k n N l).2 = true → pcs n (goX T f k n N l).1 < pcs n N) ∧ ∀ x : Int, x < 0 ∨ 64 ≤ x → (goX T f k n N l).1 x = N x
  | [], N, _, hS => ⟨hS, Int.le_refl _, fun h => absurd (show (false : Bool) = true from h) (by decide), fun _ _ => rfl⟩
  | (i, c, a) :: r, N, hV, hS => by
    have hv : (0 ≤ i ∧ i < c ∧ c < n) ∧ 0 ≤ a ∧ a < k := hV (i, c, a) List.mem_cons_self
    have hr : Vq n k r := fun t w => hV t (List.mem_cons_of_mem _ w)
    have hi : 0 ≤ i ∧ i < n := by omega
    have hc : 0 ≤ c ∧ c < n := by omega
    have hic : i ≠ c := by omega
    have o := hS i c hi.1 hi.2 hc.1 hc.2 hic
    have hk8 := hT.1
    simp only [goX]
    split
    · exact ⟨hS, Int.le_refl _, fun h => absurd (show (false : Bool) = true from h) (by decide), fun _ _ => rfl⟩
    · split
      · next q =>
        have su := hS.up hT.1 hT.2.1 hn.2 hi hc hic (rmv_se (a := a) hT.1 o.1)
        have ih := goX_ok hT hn r (rmv f k N i c a) hr su
        have lt := pcs_up (t := tP f k (yand (N (8 * i + c)) (yxor (yshl 1 a) (-1)))) (f := f) hT.1 hn.2 hi.1 hv.1.2.1 hc.2 o.1 (yand_subl _ _) (rng_yand _ _) (rmv_ne (by omega) hT.1 o.1 q.1)
        have lt' : pcs n (rmv f k N i c a) < pcs n N := lt
        dsimp only
        refine ⟨ih.1, by have := ih.2.1; omega, fun _ => by have := ih.2.1; omega, fun x hx => ?_⟩
        rw [ih.2.2.2 x hx]
        unfold rmv up2
        rw [if_neg (by omega), if_neg (by omega)]
      · exact goX_ok hT hn r N hr hS
def trP (T f : Int → Int) (k n : Int) : Nat → (Int → Int) → (Int → Int)
  | 0, N => N
  | m + 1, N => if emB n (fullP T f k n N) = true then fullP T f k n N else if (goX T f k n (fullP T f k n N) (qI n k 0)).2 = true ∧ emB n (goX T f k n (fullP T f k n N) (qI n k 0)).1 = false then trP T f k n m (goX T f k n (fullP T f k n N) (qI n k 0)).1 else (goX T f k n (fullP T f k n N) (qI n k 0)).1
def tryP (T f : Int → Int) (k n : Int) (N : Int → Int) : Int → Int := trP T f k n 300 N
theorem full_pc {T f : Int → Int} {k n : Int} (hk : 1 ≤ k ∧ k ≤ 8) (hf : IV f k) (hn : 0 ≤ n ∧ n ≤ 8) : ∀ (m : Nat) (N : Int → Int), SN f k n N → pcs n (fu T f k n m N) ≤ pcs n N
  | 0, N, _ => Int.le_refl _
  | m + 1, N, h => by
    have o := onceP_ok (T := T) hk hf hn h
    have ih := full_pc (T := T) hk hf hn m _ o.1
    show pcs n (fu T f k n m (onceP T f k n N)) ≤ pcs n N
    rcases o.2.1 with e | e
    · rw [e] at ih ⊢; exact ih
    · omega
theorem sng_eq {f : Int → Int} {k : Int} {N N' : Int → Int} (h : EqN N N') (i c a : Int) : EqN (sng f k N i c a) (sng f k N' i c a) := h.up _ _ _ _
theorem rmv_eq {f : Int → Int} {k : Int} {N N' : Int → Int} (h : EqN N N') {i c : Int} (hi : 0 ≤ 8 * i + c ∧ 8 * i + c < 64) (a : Int) : EqN (rmv f k N i c a) (rmv f k N' i c a) := by
  unfold rmv
  rw [h _ hi.1 hi.2]
  exact h.up _ _ _ _
theorem goX_eq {T f : Int → Int} {k n : Int} (hn : 0 ≤ n ∧ n ≤ 8) : ∀ (l : List (Int × Int × Int)) (N N' : Int → Int), Vq n k l → EqN N N' → EqN (goX T f k n N l).1 (goX T f k n N' l).1 ∧ (goX T f k n N l).2 = (goX T f k n N' l).2
  | [], N, N', _, h => ⟨h, rfl⟩
  | (i, c, a) :: r, N, N', hV, h => by
    have hv : (0 ≤ i ∧ i < c ∧ c < n) ∧ 0 ≤ a ∧ a < k := hV (i, c, a) List.mem_cons_self
    have hr : Vq n k r := fun t w => hV t (List.mem_cons_of_mem _ w)
    have er : rfB T f k n N i c a = rfB T f k n N' i c a := emB_eq (fullP_eqn hn (sng_eq h i c a))
    simp only [goX]
    rw [emB_eq h, h (8 * i + c) (by omega) (by omega), er]
    split
    · exact ⟨h, rfl⟩
    · split
      · exact ⟨(goX_eq hn r _ _ hr (rmv_eq h (by omega) a)).1, rfl⟩
      · exact goX_eq hn r N N' hr h
theorem trP_eq {T f : Int → Int} {k n : Int} (hk : 0 ≤ k) (hn : 0 ≤ n ∧ n ≤ 8) : ∀ (m : Nat) (N N' : Int → Int), EqN N N' → EqN (trP T f k n m N) (trP T f k n m N')
  | 0, _, _, h => h
  | m + 1, N, N', h => by
    have e := fullP_eqn (T := T) (f := f) (k := k) hn h
    have g := goX_eq (T := T) (f := f) hn (qI n k 0) _ _ (qI_v hk) e
    simp only [trP]
    rw [emB_eq e, g.2, emB_eq g.1]
    split
    · exact e
    · split
      · exact trP_eq hk hn m _ _ g.1
      · exact g.1
