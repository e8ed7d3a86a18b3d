/-! FUSING TWO KINDS: THEIR NEW NAMES -/
def mx (a b : Int) : Int := if a < b then b else a
def mn (a b : Int) : Int := if b < a then b else a
theorem mx_mn (a b : Int) : a < b ∧ mx a b = b ∧ mn a b = a ∨ b < a ∧ mx a b = a ∧ mn a b = b ∨ a = b ∧ mx a b = a ∧ mn a b = a := by
  unfold mx mn
  split <;> split <;> omega
def cn (f : Int → Int) (a b : Int) : Nat → Int
  | 0 => 0
  | c + 1 => cn f a b c + (if (c : Int) = mx a b ∨ (c : Int) = mx (f a) (f b) then 0 else 1)
def rp (f : Int → Int) (a b c : Int) : Int := if c = mx (f a) (f b) then mn (f a) (f b) else if c = mx a b then mn a b else c
def nm (f : Int → Int) (a b c : Int) : Int := cn f a b (rp f a b c).toNat
theorem rp_or (f : Int → Int) (a b c : Int) : c = mx (f a) (f b) ∧ rp f a b c = mn (f a) (f b) ∨ c ≠ mx (f a) (f b) ∧ c = mx a b ∧ rp f a b c = mn a b ∨ c ≠ mx (f a) (f b) ∧ c ≠ mx a b ∧ rp f a b c = c := by
  unfold rp
  split
  · exact Or.inl ⟨by assumption, rfl⟩
  · split
    · exact Or.inr (Or.inl ⟨by assumption, by assumption, rfl⟩)
    · exact Or.inr (Or.inr ⟨by assumption, by assumption, rfl⟩)
theorem cn_s {f : Int → Int} {a b x : Int} (h : 0 ≤ x) : cn f a b (x + 1).toNat = cn f a b x.toNat + (if x = mx a b ∨ x = mx (f a) (f b) then 0 else 1) := by
  obtain ⟨n, rfl⟩ := Int.eq_ofNat_of_zero_le h
  rw [show ((n : Int) + 1).toNat = n + 1 by omega, Int.toNat_natCast]
  rfl
theorem cn_s0 {f : Int → Int} {a b x : Int} (h : 0 ≤ x) (q : x = mx a b ∨ x = mx (f a) (f b)) : cn f a b (x + 1).toNat = cn f a b x.toNat := by
  rw [cn_s h, if_pos q, Int.add_zero]
theorem cn_s1 {f : Int → Int} {a b x : Int} (h : 0 ≤ x) (q1 : x ≠ mx a b) (q2 : x ≠ mx (f a) (f b)) : cn f a b (x + 1).toNat = cn f a b x.toNat + 1 := by
  rw [cn_s h, if_neg (fun q => q.elim q1 q2)]
theorem cn_b (f : Int → Int) (a b : Int) : ∀ n : Nat, 0 ≤ cn f a b n ∧ cn f a b n ≤ n
  | 0 => ⟨Int.le_refl 0, Int.le_refl 0⟩
  | n + 1 => by
    have h := cn_b f a b n
    simp only [cn]
    split <;> omega
theorem cn_m (f : Int → Int) (a b : Int) (n : Nat) : ∀ m : Nat, cn f a b n ≤ cn f a b (n + m)
  | 0 => Int.le_refl _
  | m + 1 => by
    have h := cn_m f a b n m
    rw [show n + (m + 1) = n + m + 1 by omega]
    simp only [cn]
    split <;> omega
theorem cn_lt {f : Int → Int} {a b x y : Int} (h : 0 ≤ x) (hxy : x < y) (q1 : x ≠ mx a b) (q2 : x ≠ mx (f a) (f b)) : cn f a b x.toNat < cn f a b y.toNat := by
  have h1 := cn_s1 (f := f) h q1 q2
  have h2 := cn_m f a b (x + 1).toNat (y - x - 1).toNat
  rw [show (x + 1).toNat + (y - x - 1).toNat = y.toNat by omega] at h2
  omega
/-- what a fusing asks -/
def FH (f : Int → Int) (k a b : Int) : Prop := (1 ≤ k ∧ k ≤ 8) ∧ (0 ≤ a ∧ a < k) ∧ (0 ≤ b ∧ b < k) ∧ a ≠ b ∧ (∀ j, 0 ≤ j → j < k → (0 ≤ f j ∧ f j < k) ∧ f (f j) = j) ∧ (f a = a ↔ f b = b) ∧ f a ≠ b
theorem FH.p {f : Int → Int} {k a b : Int} (h : FH f k a b) : (0 ≤ f a ∧ f a < k) ∧ (0 ≤ f b ∧ f b < k) ∧ f a ≠ f b ∧ f b ≠ a := by
  obtain ⟨h0, h1, h2, h3, h4, h5, h6⟩ := h
  have ea := h4 a h1.1 h1.2
  have eb := h4 b h2.1 h2.2
  refine ⟨ea.1, eb.1, fun e => h3 ?_, fun e => h6 ?_⟩
  · rw [← ea.2, e, eb.2]
  · rw [← e, eb.2]
theorem rp_b {f : Int → Int} {k a b : Int} (h : FH f k a b) {c : Int} (hc : 0 ≤ c ∧ c < k) : (0 ≤ rp f a b c ∧ rp f a b c ≤ c) ∧ rp f a b c ≠ mx a b ∧ rp f a b c ≠ mx (f a) (f b) := by
  have hp := h.p
  obtain ⟨h0, h1, h2, h3, h4, h5, h6⟩ := h
  have e1 := mx_mn a b
  have e2 := mx_mn (f a) (f b)
  have e3 := rp_or f a b c
  omega
theorem nm_b {f : Int → Int} {k a b : Int} (h : FH f k a b) {c : Int} (hc : 0 ≤ c ∧ c < k) : 0 ≤ nm f a b c ∧ nm f a b c < cn f a b k.toNat ∧ nm f a b c ≤ c := by
  have h1 := rp_b h hc
  have h2 := cn_lt (f := f) (a := a) (b := b) (x := rp f a b c) (y := k) h1.1.1 (by omega) h1.2.1 h1.2.2
  have h3 := cn_b f a b (rp f a b c).toNat
  unfold nm
  omega
theorem cn_8 {f : Int → Int} {k a b : Int} (h : FH f k a b) : 1 ≤ cn f a b k.toNat ∧ cn f a b k.toNat ≤ 8 := by
  have h1 := nm_b h (c := 0) ⟨by omega, by have := h.1; omega⟩
  have h2 := cn_b f a b k.toNat
  have := h.1
  omega
theorem nm_rp {f : Int → Int} {k a b : Int} (h : FH f k a b) {c e : Int} (hc : 0 ≤ c ∧ c < k) (he : 0 ≤ e ∧ e < k) (q : nm f a b c = nm f a b e) : rp f a b c = rp f a b e := by
  have h1 := rp_b h hc
  have h2 := rp_b h he
  unfold nm at q
  rcases Int.lt_trichotomy (rp f a b c) (rp f a b e) with h3 | h3 | h3
  · have := cn_lt (f := f) h1.1.1 h3 h1.2.1 h1.2.2
    omega
  · exact h3
  · have := cn_lt (f := f) h2.1.1 h3 h2.2.1 h2.2.2
    omega
theorem rp_E {f : Int → Int} {k a b : Int} (h : FH f k a b) (c e : Int) : rp f a b c = rp f a b e ↔ (c = e ∨ c = a ∧ e = b ∨ c = b ∧ e = a ∨ c = f a ∧ e = f b ∨ c = f b ∧ e = f a) := by
  have hp := h.p
  obtain ⟨h0, h1, h2, h3, h4, h5, h6⟩ := h
  have hp3 := hp.2.2
  clear h4 h0 h1 h2 hp
  have e1 := mx_mn a b
  have e2 := mx_mn (f a) (f b)
  have e3 := rp_or f a b c
  have e4 := rp_or f a b e
  generalize mx a b = m1 at *
  generalize mn a b = n1 at *
  generalize mx (f a) (f b) = m2 at *
  generalize mn (f a) (f b) = n2 at *
  generalize rp f a b c = u at *
  generalize rp f a b e = v at *
  generalize f a = x at *
  generalize f b = y at *
  have e1' : a < b ∧ m1 = b ∧ n1 = a ∨ b < a ∧ m1 = a ∧ n1 = b := by omega
  have e2' : x < y ∧ m2 = y ∧ n2 = x ∨ y < x ∧ m2 = x ∧ n2 = y := by omega
  clear e1 e2
  rcases e1' with ⟨w1, rfl, rfl⟩ | ⟨w1, rfl, rfl⟩ <;> rcases e2' with ⟨w2, rfl, rfl⟩ | ⟨w2, rfl, rfl⟩ <;> rcases e3 with e3 | e3 | e3 <;> rcases e4 with e4 | e4 | e4 <;> omega
theorem nm_f {f : Int → Int} {k a b : Int} (h : FH f k a b) {c e : Int} (hc : 0 ≤ c ∧ c < k) (he : 0 ≤ e ∧ e < k) (q : nm f a b c = nm f a b e) : nm f a b (f c) = nm f a b (f e) := by
  have h1 := (rp_E h c e).mp (nm_rp h hc he q)
  have ha := (h.2.2.2.2.1 a h.2.1.1 h.2.1.2).2
  have hb := (h.2.2.2.2.1 b h.2.2.1.1 h.2.2.1.2).2
  unfold nm
  rw [(rp_E h (f c) (f e)).mpr ?_]
  rcases h1 with q | q | q | q | q
  · exact Or.inl (by rw [q])
  · rw [q.1, q.2]; exact Or.inr (Or.inr (Or.inr (Or.inl ⟨rfl, rfl⟩)))
  · rw [q.1, q.2]; exact Or.inr (Or.inr (Or.inr (Or.inr ⟨rfl, rfl⟩)))
  · rw [q.1, q.2, ha, hb]; exact Or.inr (Or.inl ⟨rfl, rfl⟩)
  · rw [q.1, q.2, ha, hb]; exact Or.inr (Or.inr (Or.inl ⟨rfl, rfl⟩))
theorem nm_on {f : Int → Int} {a b : Int} : ∀ (n : Nat) (j : Int), 0 ≤ j → j < cn f a b n → ∃ c : Int, (0 ≤ c ∧ c < n) ∧ c ≠ mx a b ∧ c ≠ mx (f a) (f b) ∧ cn f a b c.toNat = j
  | 0, j, h1, h2 => by simp only [cn] at h2; omega
  | n + 1, j, h1, h2 => by
    by_cases q : j < cn f a b n
    · obtain ⟨c, hc, r⟩ := nm_on n j h1 q
      exact ⟨c, by omega, r⟩
    · simp only [cn] at h2
      split at h2
      · omega
      · next w =>
        exact ⟨n, by omega, fun e => w (Or.inl e), fun e => w (Or.inr e), by rw [Int.toNat_natCast]; omega⟩
theorem nm_sj {f : Int → Int} {k a b : Int} (hk : 0 ≤ k) {j : Int} (hj : 0 ≤ j ∧ j < cn f a b k.toNat) : ∃ c, (0 ≤ c ∧ c < k) ∧ nm f a b c = j := by
  obtain ⟨c, h1, h2, h3, h4⟩ := nm_on k.toNat j hj.1 hj.2
  refine ⟨c, by omega, ?_⟩
  unfold nm
  rw [show rp f a b c = c by have := rp_or f a b c; omega]
  exact h4
/-- the turns behind a fusing -/
def FT (f : Int → Int) (a b k : Int) (g : Int → Int) : Prop := ∀ c, 0 ≤ c → c < k → g (nm f a b c) = nm f a b (f c)
theorem FT.s {f : Int → Int} {a b k x : Int} {M M' : yM} {o : Nat} (h : FH f k a b) (hx : 0 ≤ x ∧ x < k) (hT : FT f a b x (ld M o)) (e : M' = put M o (nm f a b x) (nm f a b (f x))) : FT f a b (x + 1) (ld M' o) := fun c h1 h2 => by
  have hfx := (h.2.2.2.2.1 x hx.1 hx.2).1
  have hb := nm_b h hfx
  have h8 := cn_8 h
  subst e
  rw [ld_put (by omega)]
  split
  · next q => exact nm_f h hx ⟨h1, by omega⟩ q.2.symm
  · next q =>
    by_cases hcx : c = x
    · exact absurd ⟨rfl, by rw [hcx]⟩ q
    · exact hT c h1 (by omega)
theorem FT.in8 {f : Int → Int} {a b k : Int} {g : Int → Int} (h : FH f k a b) (hT : FT f a b k g) {j : Int} (hj : 0 ≤ j ∧ j < cn f a b k.toNat) : (0 ≤ g j ∧ g j < cn f a b k.toNat) ∧ g (g j) = j := by
  obtain ⟨c, hc, rfl⟩ := nm_sj (by have := h.1; omega) hj
  have hf := h.2.2.2.2.1 c hc.1 hc.2
  have e := hT c hc.1 hc.2
  have hb := nm_b h hf.1
  rw [e]
  refine ⟨by omega, ?_⟩
  rw [hT (f c) hf.1.1 hf.1.2, hf.2]
theorem FT.eq {f : Int → Int} {a b k : Int} {g g' : Int → Int} (hk : 0 ≤ k) (hT : FT f a b k g) (hT' : FT f a b k g') {j : Int} (hj : 0 ≤ j ∧ j < cn f a b k.toNat) : g j = g' j := by
  obtain ⟨c, hc, rfl⟩ := nm_sj hk hj
  rw [hT c hc.1 hc.2, hT' c hc.1 hc.2]
def NMD (M : yM) (f : Int → Int) (a b k : Int) (o : Nat) : Prop := ∀ c, 0 ≤ c → c < k → ld M o c = nm f a b c
