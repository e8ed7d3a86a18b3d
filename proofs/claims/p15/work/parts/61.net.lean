/-! NETS, PURELY -/
abbrev jP (T : Int → Int) (k a b : Int) : Int := jO T a b k.toNat k.toNat
abbrev tP (f : Int → Int) (k s : Int) : Int := tOf f s k.toNat
abbrev Se (k a : Int) : Prop := 0 ≤ a ∧ a ≤ al k
abbrev Sub (a b : Int) : Prop := yand a b = a
/-- what a table asks, to be worked with -/
def TH (T f : Int → Int) (k : Int) : Prop := (1 ≤ k ∧ k ≤ 8) ∧ IV f k ∧ TBd T k ∧ SY T f k
theorem Se.r {k a : Int} (hk : 1 ≤ k ∧ k ≤ 8) (h : Se k a) : 0 ≤ a ∧ a < 256 := by
  have := al_le hk
  omega
theorem Se.y {k a : Int} (hk : 1 ≤ k ∧ k ≤ 8) (h : Se k a) : yR a := by
  have := al_le hk
  exact ⟨by omega, by omega⟩
theorem sub_bt {a b : Int} (h : Sub a b) {i : Nat} (q : bt a i = true) : bt b i = true := by
  rw [← h, bt_yand, Bool.and_eq_true] at q
  exact q.2
theorem sub_of {a b : Int} (ha : yR a) (h : ∀ i : Nat, bt a i = true → bt b i = true) : Sub a b := by
  refine bt_ext (rng_yand _ _) ha (fun i _ => ?_)
  rw [bt_yand, Bool.eq_iff_iff, Bool.and_eq_true]
  exact ⟨fun q => q.1, fun q => ⟨q, h i q⟩⟩
theorem sub_rf {a : Int} (ha : yR a) : Sub a a := sub_of ha (fun _ q => q)
theorem sub_tr {a b c : Int} (ha : yR a) (h : Sub a b) (h' : Sub b c) : Sub a c := sub_of ha (fun _ q => sub_bt h' (sub_bt h q))
theorem sub_an {a b : Int} (ha : yR a) (hb : yR b) (h : Sub a b) (h' : Sub b a) : a = b := by
  refine bt_ext ha hb (fun i _ => ?_)
  rw [Bool.eq_iff_iff]
  exact ⟨fun q => sub_bt h q, fun q => sub_bt h' q⟩
theorem sub_0 {a : Int} (ha : yR a) (h : Sub a 0) : a = 0 := by
  refine bt_ext ha (by decide) (fun i _ => ?_)
  cases q : bt a i with
  | false => rw [bt_0]
  | true => rw [sub_bt h q]
theorem yand_subl (a b : Int) : Sub (yand a b) a := sub_of (rng_yand _ _) (fun i q => by
  rw [bt_yand, Bool.and_eq_true] at q
  exact q.1)
theorem yand_subr (a b : Int) : Sub (yand a b) b := sub_of (rng_yand _ _) (fun i q => by
  rw [bt_yand, Bool.and_eq_true] at q
  exact q.2)
theorem sub_and {a b c : Int} (ha : yR a) (h : Sub a b) (h' : Sub a c) : Sub a (yand b c) := sub_of ha (fun i q => by
  rw [bt_yand, sub_bt h q, sub_bt h' q]
  rfl)
theorem se_and {k a b : Int} (hk : 1 ≤ k ∧ k ≤ 8) (h : Se k a) : Se k (yand a b) := al_ge (by omega) (rng_yand _ _) (fun i q => by
  rw [bt_yand, Bool.and_eq_true] at q
  exact bt_al (by omega) h q.1)
theorem jP_bt {T : Int → Int} {k a b : Int} (hk : 1 ≤ k ∧ k ≤ 8) (ha : Se k a) (hb : Se k b) (t : Nat) : bt (jP T k a b) t = true ↔ ∃ i j : Int, (0 ≤ i ∧ i < k) ∧ (0 ≤ j ∧ j < k) ∧ bt a i.toNat = true ∧ bt b j.toNat = true ∧ bt (T (8 * i + j)) t = true := by
  have h8 := al_le hk
  rw [jO_bt (by omega) (by omega) (by omega) t _ (by omega)]
  constructor
  · rintro ⟨i, j, h1, h2, h3, h4, h5⟩
    exact ⟨i, j, by omega, by omega, by rw [Int.toNat_natCast]; exact h3, by rw [Int.toNat_natCast]; exact h4, h5⟩
  · rintro ⟨i, j, h1, h2, h3, h4, h5⟩
    exact ⟨i.toNat, j.toNat, by omega, by omega, h3, h4, by rw [show ((i.toNat : Nat) : Int) = i by omega, show ((j.toNat : Nat) : Int) = j by omega]; exact h5⟩
theorem jP_se {T : Int → Int} {k a b : Int} (hk : 1 ≤ k ∧ k ≤ 8) (hT : TBd T k) (ha : Se k a) (hb : Se k b) : Se k (jP T k a b) := al_ge (by omega) (jO_rng _) (fun t q => by
  obtain ⟨i, j, h1, h2, _, _, h5⟩ := (jP_bt hk ha hb t).mp q
  exact bt_al (by omega) (hT i j h1.1 h1.2 h2.1 h2.2) h5)
theorem jP_mono {T : Int → Int} {k a b a' b' : Int} (hk : 1 ≤ k ∧ k ≤ 8) (ha : Se k a) (hb : Se k b) (ha' : Se k a') (hb' : Se k b') (h1 : Sub a a') (h2 : Sub b b') : Sub (jP T k a b) (jP T k a' b') := sub_of (jO_rng _) (fun t q => by
  obtain ⟨i, j, w1, w2, w3, w4, w5⟩ := (jP_bt hk ha hb t).mp q
  exact (jP_bt hk ha' hb' t).mpr ⟨i, j, w1, w2, sub_bt h1 w3, sub_bt h2 w4, w5⟩)
theorem tP_bt {f : Int → Int} {k s : Int} (hk : 1 ≤ k ∧ k ≤ 8) (hf : IV f k) (hs : Se k s) (t : Nat) : bt (tP f k s) t = true ↔ ∃ i : Int, (0 ≤ i ∧ i < k) ∧ bt s i.toNat = true ∧ f i = t := by
  have h8 := al_le hk
  rw [tOf_bt (by omega) k.toNat (by omega) (hf.t8 hk.2) t]
  constructor
  · rintro ⟨b, h1, h2, h3⟩
    have := (hf b (by omega) (by omega)).1
    exact ⟨b, by omega, by rw [Int.toNat_natCast]; exact h2, by omega⟩
  · rintro ⟨i, h1, h2, h3⟩
    exact ⟨i.toNat, by omega, h2, by rw [show ((i.toNat : Nat) : Int) = i by omega, h3, Int.toNat_natCast]⟩
theorem tP_se {f : Int → Int} {k s : Int} (hk : 1 ≤ k ∧ k ≤ 8) (hf : IV f k) (hs : Se k s) : Se k (tP f k s) := by
  have h8 := al_le hk
  exact tOf_lt hf hk (by omega)
theorem tP_tP {f : Int → Int} {k s : Int} (hk : 1 ≤ k ∧ k ≤ 8) (hf : IV f k) (hs : Se k s) : tP f k (tP f k s) = s := tOf_tOf hf hk hs
theorem tP_mono {f : Int → Int} {k a b : Int} (hk : 1 ≤ k ∧ k ≤ 8) (hf : IV f k) (ha : Se k a) (hb : Se k b) (h : Sub a b) : Sub (tP f k a) (tP f k b) := sub_of (tOf_rng _ _ _) (fun t q => by
  obtain ⟨i, h1, h2, h3⟩ := (tP_bt hk hf ha t).mp q
  exact (tP_bt hk hf hb t).mpr ⟨i, h1, sub_bt h h2, h3⟩)
theorem tP_0 {f : Int → Int} {k s : Int} (hk : 1 ≤ k ∧ k ≤ 8) (hf : IV f k) (hs : Se k s) : tP f k s = 0 ↔ s = 0 := by
  have z : tP f k 0 = 0 := by
    refine bt_ext (tOf_rng _ _ _) (by decide) (fun i _ => ?_)
    cases q : bt (tP f k 0) i with
    | false => rw [bt_0]
    | true =>
      obtain ⟨j, h1, h2, h3⟩ := (tP_bt hk hf (by have := al_le hk; exact ⟨by omega, by omega⟩) i).mp q
      rw [bt_0] at h2
      cases h2
  constructor
  · intro q
    rw [← tP_tP hk hf hs, q, z]
  · intro q
    rw [q, z]
/-- a join told the other way round -/
theorem jP_t {T f : Int → Int} {k a b : Int} (h : TH T f k) (ha : Se k a) (hb : Se k b) : tP f k (jP T k a b) = jP T k (tP f k b) (tP f k a) := by
  obtain ⟨hk, hf, hT, hS⟩ := h
  have sj := jP_se hk hT ha hb
  have sa := tP_se hk hf ha
  have sb := tP_se hk hf hb
  refine bt_ext (tOf_rng _ _ _) (jO_rng _) (fun t ht => ?_)
  rw [Bool.eq_iff_iff, tP_bt hk hf sj t, jP_bt hk sb sa t]
  have key : ∀ i j c : Int, 0 ≤ i → i < k → 0 ≤ j → j < k → 0 ≤ c → c < k → tb T i j c = tb T (f j) (f i) (f c) := fun i j c i1 i2 j1 j2 c1 c2 => by
    have fi := hf i i1 i2
    have fj := hf j j1 j2
    have fc := hf c c1 c2
    have s1 := (hS i j c i1 i2 j1 j2 c1 c2).1
    have s2 := (hS c (f j) i c1 c2 fj.1.1 fj.1.2 i1 i2).2
    have s3 := (hS (f c) i (f j) fc.1.1 fc.1.2 i1 i2 fj.1.1 fj.1.2).1
    rw [s1, s2, s3]
  constructor
  · rintro ⟨c, h1, h2, h3⟩
    obtain ⟨i, j, w1, w2, w3, w4, w5⟩ := (jP_bt hk ha hb c.toNat).mp h2
    have fi := hf i w1.1 w1.2
    have fj := hf j w2.1 w2.2
    have kk := key i j c w1.1 w1.2 w2.1 w2.2 h1.1 h1.2
    unfold tb at kk
    rw [w5, h3, Int.toNat_natCast] at kk
    exact ⟨f j, f i, fj.1, fi.1, (tP_bt hk hf hb _).mpr ⟨j, w2, w4, by omega⟩, (tP_bt hk hf ha _).mpr ⟨i, w1, w3, by omega⟩, kk.symm⟩
  · rintro ⟨p, q, w1, w2, w3, w4, w5⟩
    obtain ⟨j, j1, j2, j3⟩ := (tP_bt hk hf hb _).mp w3
    obtain ⟨i, i1, i2, i3⟩ := (tP_bt hk hf ha _).mp w4
    have ht8 := bt_al (by omega) (hT p q w1.1 w1.2 w2.1 w2.2) w5
    have ft := hf t (by omega) (by omega)
    have kk := key i j (f t) i1.1 i1.2 j1.1 j1.2 ft.1.1 ft.1.2
    unfold tb at kk
    rw [ft.2, show f j = p by omega, show f i = q by omega, Int.toNat_natCast, w5] at kk
    exact ⟨f t, ft.1, (jP_bt hk ha hb _).mpr ⟨i, j, i1, j1, i2, j2, kk⟩, ft.2⟩
/-- a net of n points: sets below, the same told from both -/
def SN (f : Int → Int) (k n : Int) (N : Int → Int) : Prop := ∀ i c : Int, 0 ≤ i → i < n → 0 ≤ c → c < n → i ≠ c → Se k (N (8 * i + c)) ∧ N (8 * c + i) = tP f k (N (8 * i + c))
def up2 (N : Int → Int) (i c s t : Int) : Int → Int := fun x => if x = 8 * c + i then t else if x = 8 * i + c then s else N x
theorem up2_at {N : Int → Int} {i c s t p q : Int} (hi : 0 ≤ i ∧ i < 8) (hc : 0 ≤ c ∧ c < 8) (hp : 0 ≤ p ∧ p < 8) (hq : 0 ≤ q ∧ q < 8) : up2 N i c s t (8 * p + q) = if p = c ∧ q = i then t else if p = i ∧ q = c then s else N (8 * p + q) := by
  unfold up2
  by_cases a : p = c ∧ q = i
  · rw [if_pos a, if_pos (by omega)]
  · rw [if_neg a, if_neg (by omega)]
    by_cases b : p = i ∧ q = c
    · rw [if_pos b, if_pos (by omega)]
    · rw [if_neg b, if_neg (by omega)]
theorem SN.up {f : Int → Int} {k n : Int} {N : Int → Int} (h : SN f k n N) (hk : 1 ≤ k ∧ k ≤ 8) (hf : IV f k) (hn : n ≤ 8) {i c s : Int} (hi : 0 ≤ i ∧ i < n) (hc : 0 ≤ c ∧ c < n) (hic : i ≠ c) (hs : Se k s) : SN f k n (up2 N i c s (tP f k s)) := fun p q p1 p2 q1 q2 pq => by
  have ht := tP_se hk hf hs
  have o := h p q p1 p2 q1 q2 pq
  rw [up2_at (by omega) (by omega) (by omega) (by omega), up2_at (by omega) (by omega) (by omega) (by omega)]
  by_cases a : p = c ∧ q = i
  · rw [if_pos a, if_neg (by omega), if_pos (by omega), tP_tP hk hf hs]
    exact ⟨ht, rfl⟩
  · rw [if_neg a]
    by_cases b : p = i ∧ q = c
    · rw [if_pos b, if_pos (by omega)]
      exact ⟨hs, rfl⟩
    · rw [if_neg b, if_neg (by omega), if_neg (by omega)]
      exact o
/-- one step -/
def stp (T : Int → Int) (k : Int) (N : Int → Int) (i j c : Int) : Int := yand (N (8 * i + c)) (jP T k (N (8 * i + j)) (N (8 * j + c)))
def onL (T f : Int → Int) (k : Int) (N : Int → Int) : List (Int × Int × Int) → (Int → Int)
  | [] => N
  | (i, j, c) :: r => if j = i ∨ j = c then onL T f k N r else if stp T k N i j c = N (8 * i + c) then onL T f k N r else if stp T k N i j c = 0 then up2 N i c (stp T k N i j c) (tP f k (stp T k N i j c)) else onL T f k (up2 N i c (stp T k N i j c) (tP f k (stp T k N i j c))) r
def fC (i j : Int) : Nat → Int → List (Int × Int × Int)
  | 0, _ => []
  | m + 1, c => (i, j, c) :: fC i j m (c + 1)
def fJ (n i : Int) : Nat → Int → List (Int × Int × Int)
  | 0, _ => []
  | m + 1, j => fC i j (n - (i + 1)).toNat (i + 1) ++ fJ n i m (j + 1)
def fI (n : Int) : Nat → Int → List (Int × Int × Int)
  | 0, _ => []
  | m + 1, i => fJ n i n.toNat 0 ++ fI n m (i + 1)
def lI (n i : Int) : List (Int × Int × Int) := fI n (n - i).toNat i
def lJ (n i j : Int) : List (Int × Int × Int) := fJ n i (n - j).toNat j ++ lI n (i + 1)
def lC (n i j c : Int) : List (Int × Int × Int) := fC i j (n - c).toNat c ++ lJ n i (j + 1)
theorem lI_s {n i : Int} (h : i < n) : lI n i = lJ n i 0 := by
  unfold lI lJ
  rw [show (n - i).toNat = (n - (i + 1)).toNat + 1 by omega, show (n - 0).toNat = n.toNat by omega]
  rfl
theorem lI_e {n i : Int} (h : n ≤ i) : lI n i = [] := by
  unfold lI
  rw [show (n - i).toNat = 0 by omega]
  rfl
theorem lJ_s {n i j : Int} (h : j < n) : lJ n i j = lC n i j (i + 1) := by
  unfold lJ lC
  rw [show (n - j).toNat = (n - (j + 1)).toNat + 1 by omega]
  simp only [fJ, List.append_assoc]
  rfl
theorem lJ_e {n i j : Int} (h : n ≤ j) : lJ n i j = lI n (i + 1) := by
  unfold lJ
  rw [show (n - j).toNat = 0 by omega]
  rfl
theorem lC_s {n i j c : Int} (h : c < n) : lC n i j c = (i, j, c) :: lC n i j (c + 1) := by
  unfold lC
  rw [show (n - c).toNat = (n - (c + 1)).toNat + 1 by omega]
  rfl
theorem lC_e {n i j c : Int} (h : n ≤ c) : lC n i j c = lJ n i (j + 1) := by
  unfold lC
  rw [show (n - c).toNat = 0 by omega]
  rfl
def Vl (n : Int) (l : List (Int × Int × Int)) : Prop := ∀ t ∈ l, (0 ≤ t.1 ∧ t.1 < t.2.2 ∧ t.2.2 < n) ∧ 0 ≤ t.2.1 ∧ t.2.1 < n
theorem fC_v {n i j : Int} (hi : 0 ≤ i) (hj : 0 ≤ j ∧ j < n) : ∀ (m : Nat) (c : Int), i < c → c + m ≤ n → Vl n (fC i j m c)
  | 0, _, _, _ => fun t h => absurd h List.not_mem_nil
  | m + 1, c, h1, h2 => fun t h => by
    rcases List.mem_cons.mp h with rfl | h
    · exact ⟨⟨hi, h1, by dsimp only; omega⟩, hj⟩
    · exact fC_v hi hj m (c + 1) (by omega) (by omega) t h
theorem fJ_v {n i : Int} (hi : 0 ≤ i) : ∀ (m : Nat) (j : Int), 0 ≤ j → j + m ≤ n → Vl n (fJ n i m j)
  | 0, _, _, _ => fun t h => absurd h List.not_mem_nil
  | m + 1, j, h1, h2 => fun t h => by
    rcases List.mem_append.mp h with h | h
    · by_cases q : i + 1 ≤ n
      · exact fC_v hi ⟨h1, by omega⟩ _ (i + 1) (by omega) (by omega) t h
      · rw [show (n - (i + 1)).toNat = 0 by omega] at h
        exact absurd h List.not_mem_nil
    · exact fJ_v hi m (j + 1) (by omega) (by omega) t h
theorem fI_v {n : Int} (hn : 0 ≤ n) : ∀ (m : Nat) (i : Int), 0 ≤ i → Vl n (fI n m i)
  | 0, _, _ => fun t h => absurd h List.not_mem_nil
  | m + 1, i, h1 => fun t h => by
    rcases List.mem_append.mp h with h | h
    · exact fJ_v h1 n.toNat 0 (by omega) (by omega) t h
    · exact fI_v hn m (i + 1) (by omega) t h
theorem lI_v {n : Int} (hn : 0 ≤ n) : Vl n (lI n 0) := fI_v hn _ 0 (by omega)
theorem fC_m {i j c : Int} : ∀ (m : Nat) (c0 : Int), c0 ≤ c → c < c0 + m → (i, j, c) ∈ fC i j m c0
  | 0, _, _, h => absurd h (by omega)
  | m + 1, c0, h1, h2 => by
    by_cases q : c = c0
    · rw [q]; exact List.mem_cons_self
    · exact List.mem_cons_of_mem _ (fC_m m (c0 + 1) (by omega) (by omega))
theorem fJ_m {n i j c : Int} (hc : i < c ∧ c < n) : ∀ (m : Nat) (j0 : Int), j0 ≤ j → j < j0 + m → (i, j, c) ∈ fJ n i m j0
  | 0, _, _, h => absurd h (by omega)
  | m + 1, j0, h1, h2 => by
    by_cases q : j = j0
    · rw [q]; exact List.mem_append_left _ (fC_m _ _ (by omega) (by omega))
    · exact List.mem_append_right _ (fJ_m hc m (j0 + 1) (by omega) (by omega))
theorem fI_m {n i j c : Int} (hc : i < c ∧ c < n) (hj : 0 ≤ j ∧ j < n) : ∀ (m : Nat) (i0 : Int), i0 ≤ i → i < i0 + m → (i, j, c) ∈ fI n m i0
  | 0, _, _, h => absurd h (by omega)
  | m + 1, i0, h1, h2 => by
    by_cases q : i = i0
    · subst q; exact List.mem_append_left _ (fJ_m hc _ _ (by omega) (by omega))
    · exact List.mem_append_right _ (fI_m hc hj m (i0 + 1) (by omega) (by omega))
theorem lI_m {n i j c : Int} (hi : 0 ≤ i) (hc : i < c ∧ c < n) (hj : 0 ≤ j ∧ j < n) : (i, j, c) ∈ lI n 0 := fI_m hc hj _ 0 hi (by omega)
/-- an empty set -/
def emB (n : Int) (N : Int → Int) : Bool := up28.any fun p => decide (p.2 < n) && decide (N (8 * p.1 + p.2) = 0)
theorem emB_iff {n : Int} {N : Int → Int} (hn : n ≤ 8) : emB n N = true ↔ ∃ i c : Int, 0 ≤ i ∧ i < c ∧ c < n ∧ N (8 * i + c) = 0 := by
  unfold emB
  rw [List.any_eq_true]
  constructor
  · rintro ⟨p, hp, q⟩
    rw [Bool.and_eq_true, decide_eq_true_eq, decide_eq_true_eq] at q
    have := up28_of p hp
    exact ⟨p.1, p.2, this.1, this.2.1, q.1, q.2⟩
  · rintro ⟨i, c, h1, h2, h3, h4⟩
    have m := up28_in c.toNat (by omega) i.toNat (by omega)
    rw [show ((i.toNat : Nat) : Int) = i by omega, show ((c.toNat : Nat) : Int) = c by omega] at m
    refine ⟨(i, c), m, ?_⟩
    rw [Bool.and_eq_true, decide_eq_true_eq, decide_eq_true_eq]
    exact ⟨h3, h4⟩
def onceP (T f : Int → Int) (k n : Int) (N : Int → Int) : Int → Int := if emB n N = true then N else onL T f k N (lI n 0)
def fu (T f : Int → Int) (k n : Int) : Nat → (Int → Int) → (Int → Int)
  | 0, N => N
  | m + 1, N => fu T f k n m (onceP T f k n N)
def fullP (T f : Int → Int) (k n : Int) (N : Int → Int) : Int → Int := fu T f k n 300 N
/-- how many kinds -/
def pcb (x : Int) : Nat → Int
  | 0 => 0
  | m + 1 => pcb x m + (if bt x m = true then 1 else 0)
theorem pcb_b (x : Int) : ∀ m : Nat, 0 ≤ pcb x m ∧ pcb x m ≤ m
  | 0 => ⟨Int.le_refl 0, Int.le_refl 0⟩
  | m + 1 => by
    have := pcb_b x m
    simp only [pcb]
    split <;> omega
theorem pcb_m {a b : Int} (h : Sub a b) : ∀ m : Nat, pcb a m ≤ pcb b m
  | 0 => Int.le_refl 0
  | m + 1 => by
    have := pcb_m h m
    simp only [pcb]
    by_cases q : bt a m = true
    · rw [if_pos q, if_pos (sub_bt h q)]; omega
    · rw [if_neg q]; split <;> omega
theorem pcb_l {a b : Int} (h : Sub a b) {i : Nat} (hb : bt b i = true) (ha : ¬ bt a i = true) : ∀ m : Nat, i < m → pcb a m < pcb b m
  | 0, q => absurd q (by omega)
  | m + 1, q => by
    simp only [pcb]
    by_cases e : i = m
    · subst e
      have := pcb_m h i
      rw [if_neg ha, if_pos hb]
      omega
    · have := pcb_l h hb ha m (by omega)
      by_cases q : bt a m = true
      · rw [if_pos q, if_pos (sub_bt h q)]; omega
      · rw [if_neg q]; split <;> omega
def pcs (n : Int) (N : Int → Int) : Int := ms n (fun i c => pcb (N (8 * i + c)) 8) up28
theorem ms_8 {n : Int} {f : Int → Int → Int} (h : ∀ a b, f a b ≤ 8) : ∀ (l : List (Int × Int)), ms n f l ≤ 8 * l.length
  | [] => Int.le_refl _
  | p :: r => by
    have ih := ms_8 (n := n) h r
    have h0 := h p.1 p.2
    simp only [ms, List.length_cons]
    split <;> omega
theorem pcs_b (n : Int) (N : Int → Int) : 0 ≤ pcs n N ∧ pcs n N ≤ 224 := by
  have h1 := ms_8 (n := n) (f := fun i c => pcb (N (8 * i + c)) 8) (fun a b => (pcb_b _ 8).2) up28
  rw [up28_len] at h1
  exact ⟨ms_nn _ (fun p _ _ => (pcb_b _ 8).1), h1⟩
theorem pcs_up {f : Int → Int} {k n : Int} {N : Int → Int} (hk : 1 ≤ k ∧ k ≤ 8) (hn : n ≤ 8) {i c s t : Int} (hi : 0 ≤ i) (hic : i < c) (hc : c < n) (hN : Se k (N (8 * i + c))) (hs : Sub s (N (8 * i + c))) (hsy : yR s) (hne : s ≠ N (8 * i + c)) : pcs n (up2 N i c s t) < pcs n N := by
  have e : ∀ p : Int × Int, p ∈ up28 → up2 N i c s t (8 * p.1 + p.2) = if p.1 = i ∧ p.2 = c then s else N (8 * p.1 + p.2) := fun p hp => by
    have q := up28_of p hp
    rw [up2_at (by omega) (by omega) (by omega) (by omega), if_neg (by omega)]
  have hb : ∃ b : Nat, bt (N (8 * i + c)) b = true ∧ ¬ bt s b = true := by
    apply Classical.byContradiction
    intro q
    apply hne
    refine sub_an hsy (hN.y hk) hs (sub_of (hN.y hk) (fun b w => ?_))
    apply Classical.byContradiction
    intro w2
    exact q ⟨b, w, w2⟩
  obtain ⟨b, b1, b2⟩ := hb
  have b8 := bt_al (by omega) hN b1
  refine ms_lt _ (fun p hp hpn => ?_) ⟨(i, c), ?_, hc, ?_⟩
  · rw [e p hp]
    split
    · next q => rw [q.1, q.2]; exact pcb_m hs 8
    · exact Int.le_refl _
  · have m := up28_in c.toNat (by omega) i.toNat (by omega)
    rw [show ((i.toNat : Nat) : Int) = i by omega, show ((c.toNat : Nat) : Int) = c by omega] at m
    exact m
  · have m := up28_in c.toNat (by omega) i.toNat (by omega)
    rw [show ((i.toNat : Nat) : Int) = i by omega, show ((c.toNat : Nat) : Int) = c by omega] at m
    rw [e (i, c) m, if_pos ⟨rfl, rfl⟩]
    exact pcb_l hs b1 b2 8 (by omega)
theorem stp_se {T f : Int → Int} {k n : Int} {N : Int → Int} (hk : 1 ≤ k ∧ k ≤ 8) (h : SN f k n N) {i j c : Int} (hi : 0 ≤ i ∧ i < n) (hc : 0 ≤ c ∧ c < n) (hic : i ≠ c) : Se k (stp T k N i j c) := se_and hk (h i c hi.1 hi.2 hc.1 hc.2 hic).1
/-- what a walk of steps keeps -/
theorem onL_ok {T f : Int → Int} {k n : Int} (hk : 1 ≤ k ∧ k ≤ 8) (hf : IV f k) (hn : n ≤ 8) : ∀ (l : List (Int × Int × Int)) (N : Int → Int), Vl n l → SN f k n N → SN f k n (onL T f k N l) ∧ pcs n (onL T f k N l) ≤ pcs n N ∧ (onL T f k N l = N ∨ pcs n (onL T f k N l) < pcs n N) ∧ (∀ x : Int, x < 0 ∨ 64 ≤ x → onL T f k N l x = N x) ∧ (onL T f k N l = N → ∀ t ∈ l, t.2.1 ≠ t.1 → t.2.1 ≠ t.2.2 → stp T k N t.1 t.2.1 t.2.2 = N (8 * t.1 + t.2.2))
  | [], N, _, hS => ⟨hS, Int.le_refl _, Or.inl rfl, fun _ _ => rfl, fun _ t h => absurd h List.not_mem_nil⟩
  | (i, j, c) :: r, N, hV, hS => by
    have hv : (0 ≤ i ∧ i < c ∧ c < n) ∧ 0 ≤ j ∧ j < n := hV (i, j, c) List.mem_cons_self
    have hr : Vl n r := fun t h => hV t (List.mem_cons_of_mem _ h)
    have hi : 0 ≤ i ∧ i < n := by omega
    have hc : 0 ≤ c ∧ c < n := by omega
    have hic : i ≠ c := by omega
    have o := hS i c hi.1 hi.2 hc.1 hc.2 hic
    have ss := stp_se (T := T) (j := j) hk hS hi hc hic
    simp only [onL]
    by_cases q1 : j = i ∨ j = c
    · rw [if_pos q1]
      have ih := onL_ok (T := T) hk hf hn r N hr hS
      refine ⟨ih.1, ih.2.1, ih.2.2.1, ih.2.2.2.1, fun e t ht n1 n2 => ?_⟩
      rcases List.mem_cons.mp ht with rfl | ht
      · exact absurd q1 (fun w => w.elim n1 n2)
      · exact ih.2.2.2.2 e t ht n1 n2
    · rw [if_neg q1]
      by_cases q2 : stp T k N i j c = N (8 * i + c)
      · rw [if_pos q2]
        have ih := onL_ok (T := T) hk hf hn r N hr hS
        refine ⟨ih.1, ih.2.1, ih.2.2.1, ih.2.2.2.1, fun e t ht n1 n2 => ?_⟩
        rcases List.mem_cons.mp ht with rfl | ht
        · exact q2
        · exact ih.2.2.2.2 e t ht n1 n2
      · rw [if_neg q2]
        have lt : pcs n (up2 N i c (stp T k N i j c) (tP f k (stp T k N i j c))) < pcs n N := pcs_up (t := tP f k (stp T k N i j c)) (f := f) hk hn hi.1 hv.1.2.1 hc.2 o.1 (yand_subl _ _) (rng_yand _ _) q2
        have su := hS.up hk hf hn hi hc hic ss
        by_cases q3 : stp T k N i j c = 0
        · rw [if_pos q3]
          refine ⟨su, by omega, Or.inr lt, fun x hx => ?_, fun e => ?_⟩
          · unfold up2
            rw [if_neg (by omega), if_neg (by omega)]
          · rw [e] at lt
            omega
        · rw [if_neg q3]
          have ih := onL_ok (T := T) hk hf hn r _ hr su
          refine ⟨ih.1, by have := ih.2.1; omega, Or.inr (by have := ih.2.1; omega), fun x hx => ?_, fun e => ?_⟩
          · rw [ih.2.2.2.1 x hx]
            unfold up2
            rw [if_neg (by omega), if_neg (by omega)]
          · have := ih.2.1
            rw [e] at this
            omega
theorem onceP_ok {T f : Int → Int} {k n : Int} {N : Int → Int} (hk : 1 ≤ k ∧ k ≤ 8) (hf : IV f k) (hn : 0 ≤ n ∧ n ≤ 8) (hS : SN f k n N) : SN f k n (onceP T f k n N) ∧ (onceP T f k n N = N ∨ pcs n (onceP T f k n N) < pcs n N) ∧ (∀ x : Int, x < 0 ∨ 64 ≤ x → onceP T f k n N x = N x) := by
  unfold onceP
  split
  · exact ⟨hS, Or.inl rfl, fun _ _ => rfl⟩
  · have := onL_ok (T := T) hk hf hn.2 (lI n 0) N (lI_v hn.1) hS
    exact ⟨this.1, this.2.2.1, this.2.2.2.1⟩
theorem fu_add {T f : Int → Int} {k n : Int} : ∀ (a b : Nat) (N : Int → Int), fu T f k n (a + b) N = fu T f k n b (fu T f k n a N)
  | 0, b, N => by rw [Nat.zero_add]; rfl
  | a + 1, b, N => by
    rw [show a + 1 + b = a + b + 1 by omega]
    exact fu_add a b (onceP T f k n N)
theorem fu_fx {T f : Int → Int} {k n : Int} {N : Int → Int} (h : onceP T f k n N = N) : ∀ m : Nat, fu T f k n m N = N
  | 0 => rfl
  | m + 1 => by
    show fu T f k n m (onceP T f k n N) = N
    rw [h]
    exact fu_fx h m
theorem fu_sn {T f : Int → Int} {k n : Int} (hk : 1 ≤ k ∧ k ≤ 8) (hf : IV f k) (hn : 0 ≤ n ∧ n ≤ 8) : ∀ (m : Nat) (N : Int → Int), SN f k n N → SN f k n (fu T f k n m N) ∧ ∀ x : Int, x < 0 ∨ 64 ≤ x → fu T f k n m N x = N x
  | 0, N, h => ⟨h, fun _ _ => rfl⟩
  | m + 1, N, h => by
    have o := onceP_ok (T := T) hk hf hn h
    have ih := fu_sn (T := T) hk hf hn m _ o.1
    exact ⟨ih.1, fun x hx => (ih.2 x hx).trans (o.2.2 x hx)⟩
theorem fu_fix {T f : Int → Int} {k n : Int} (hk : 1 ≤ k ∧ k ≤ 8) (hf : IV f k) (hn : 0 ≤ n ∧ n ≤ 8) : ∀ (m : Nat) (N : Int → Int), SN f k n N → pcs n N < m → onceP T f k n (fu T f k n m N) = fu T f k n m N
  | 0, N, h, q => by have := (pcs_b n N).1; omega
  | m + 1, N, h, q => by
    have o := onceP_ok (T := T) hk hf hn h
    rcases o.2.1 with e | e
    · rw [fu_fx e]
      exact e
    · exact fu_fix hk hf hn m _ o.1 (by omega)
theorem fullP_fix {T f : Int → Int} {k n : Int} {N : Int → Int} (hk : 1 ≤ k ∧ k ≤ 8) (hf : IV f k) (hn : 0 ≤ n ∧ n ≤ 8) (h : SN f k n N) : onceP T f k n (fullP T f k n N) = fullP T f k n N := fu_fix hk hf hn 300 N h (by have := (pcs_b n N).2; omega)
theorem fullP_eq {T f : Int → Int} {k n : Int} {N : Int → Int} (hk : 1 ≤ k ∧ k ≤ 8) (hf : IV f k) (hn : 0 ≤ n ∧ n ≤ 8) (h : SN f k n N) {r : Nat} (e : onceP T f k n (fu T f k n r N) = fu T f k n r N) : fu T f k n r N = fullP T f k n N := by
  have e2 := fullP_fix (T := T) hk hf hn h
  unfold fullP at e2 ⊢
  rcases Nat.le_total r 300 with q | q
  · have w := fu_add (T := T) (f := f) (k := k) (n := n) r (300 - r) N
    rw [show r + (300 - r) = 300 by omega, fu_fx e] at w
    exact w.symm
  · have w := fu_add (T := T) (f := f) (k := k) (n := n) 300 (r - 300) N
    rw [show 300 + (r - 300) = r by omega, fu_fx e2] at w
    exact w
theorem fullP_sn {T f : Int → Int} {k n : Int} {N : Int → Int} (hk : 1 ≤ k ∧ k ≤ 8) (hf : IV f k) (hn : 0 ≤ n ∧ n ≤ 8) (h : SN f k n N) : SN f k n (fullP T f k n N) := (fu_sn hk hf hn 300 N h).1
theorem fullP_em {T f : Int → Int} {k n : Int} {N : Int → Int} (h : emB n N = true) : fullP T f k n N = N := fu_fx (by unfold onceP; rw [if_pos h]) 300
/-! CLOSED NETS -/
def Cl (T : Int → Int) (k n : Int) (N : Int → Int) : Prop := ∀ i j c : Int, 0 ≤ i → i < n → 0 ≤ j → j < n → 0 ≤ c → c < n → i ≠ j → j ≠ c → i ≠ c → stp T k N i j c = N (8 * i + c)
def Ne (n : Int) (N : Int → Int) : Prop := ∀ i c : Int, 0 ≤ i → i < n → 0 ≤ c → c < n → i ≠ c → N (8 * i + c) ≠ 0
def Sb (n : Int) (Y X : Int → Int) : Prop := ∀ i c : Int, 0 ≤ i → i < n → 0 ≤ c → c < n → i ≠ c → Sub (Y (8 * i + c)) (X (8 * i + c))
theorem Sb.rf {f : Int → Int} {k n : Int} {N : Int → Int} (hk : 1 ≤ k ∧ k ≤ 8) (h : SN f k n N) : Sb n N N := fun i c i1 i2 c1 c2 ic => sub_rf ((h i c i1 i2 c1 c2 ic).1.y hk)
theorem Sb.tr {f : Int → Int} {k n : Int} {X Y Z : Int → Int} (hk : 1 ≤ k ∧ k ≤ 8) (hX : SN f k n X) (h : Sb n X Y) (h' : Sb n Y Z) : Sb n X Z := fun i c i1 i2 c1 c2 ic => sub_tr ((hX i c i1 i2 c1 c2 ic).1.y hk) (h i c i1 i2 c1 c2 ic) (h' i c i1 i2 c1 c2 ic)
/-- the other way round it is the same step -/
theorem stp_t {T f : Int → Int} {k n : Int} {N : Int → Int} (h : TH T f k) (hS : SN f k n N) {i j c : Int} (hi : 0 ≤ i ∧ i < n) (hj : 0 ≤ j ∧ j < n) (hc : 0 ≤ c ∧ c < n) (ij : i ≠ j) (jc : j ≠ c) (ic : i ≠ c) (e : stp T k N i j c = N (8 * i + c)) : stp T k N c j i = N (8 * c + i) := by
  obtain ⟨hk, hf, hT, hS2⟩ := h
  have a := hS i c hi.1 hi.2 hc.1 hc.2 ic
  have b := hS i j hi.1 hi.2 hj.1 hj.2 ij
  have d := hS j c hj.1 hj.2 hc.1 hc.2 jc
  unfold stp at e ⊢
  rw [a.2, b.2, d.2, ← jP_t ⟨hk, hf, hT, hS2⟩ b.1 d.1]
  exact tP_mono hk hf a.1 (jP_se hk hT b.1 d.1) e
/-- a narrowing step keeps what closed nets lie within -/
theorem Sb.step {T f : Int → Int} {k n : Int} {X Y : Int → Int} (h : TH T f k) (hn : n ≤ 8) (hX : SN f k n X) (hY : SN f k n Y) (hC : Cl T k n Y) (hs : Sb n Y X) {i j c : Int} (hi : 0 ≤ i ∧ i < n) (hj : 0 ≤ j ∧ j < n) (hc : 0 ≤ c ∧ c < n) (ij : i ≠ j) (jc : j ≠ c) (ic : i ≠ c) : Sb n Y (up2 X i c (stp T k X i j c) (tP f k (stp T k X i j c))) := fun p q p1 p2 q1 q2 pq => by
  obtain ⟨hk, hf, hT, hS2⟩ := h
  have key : Sub (Y (8 * i + c)) (stp T k X i j c) := by
    have yy := (hY i c hi.1 hi.2 hc.1 hc.2 ic).1.y hk
    refine sub_and yy (hs i c hi.1 hi.2 hc.1 hc.2 ic) ?_
    have m := jP_mono (T := T) hk (hY i j hi.1 hi.2 hj.1 hj.2 ij).1 (hY j c hj.1 hj.2 hc.1 hc.2 jc).1 (hX i j hi.1 hi.2 hj.1 hj.2 ij).1 (hX j c hj.1 hj.2 hc.1 hc.2 jc).1 (hs i j hi.1 hi.2 hj.1 hj.2 ij) (hs j c hj.1 hj.2 hc.1 hc.2 jc)
    exact sub_tr yy (hC i j c hi.1 hi.2 hj.1 hj.2 hc.1 hc.2 ij jc ic) m
  rw [up2_at (by omega) (by omega) (by omega) (by omega)]
  by_cases a : p = c ∧ q = i
  · rw [if_pos a, a.1, a.2, (hY i c hi.1 hi.2 hc.1 hc.2 ic).2]
    exact tP_mono hk hf (hY i c hi.1 hi.2 hc.1 hc.2 ic).1 (stp_se hk hX hi hc ic) key
  · rw [if_neg a]
    by_cases b : p = i ∧ q = c
    · rw [if_pos b, b.1, b.2]
      exact key
    · rw [if_neg b]
      exact hs p q p1 p2 q1 q2 pq
theorem Sb.down {T f : Int → Int} {k n : Int} {X : Int → Int} (h : TH T f k) (hn : n ≤ 8) (hX : SN f k n X) {i j c : Int} (hi : 0 ≤ i ∧ i < n) (hc : 0 ≤ c ∧ c < n) (ic : i ≠ c) : Sb n (up2 X i c (stp T k X i j c) (tP f k (stp T k X i j c))) X := fun p q p1 p2 q1 q2 pq => by
  obtain ⟨hk, hf, hT, hS2⟩ := h
  rw [up2_at (by omega) (by omega) (by omega) (by omega)]
  by_cases a : p = c ∧ q = i
  · rw [if_pos a, a.1, a.2, (hX i c hi.1 hi.2 hc.1 hc.2 ic).2]
    exact tP_mono hk hf (stp_se hk hX hi hc ic) (hX i c hi.1 hi.2 hc.1 hc.2 ic).1 (yand_subl _ _)
  · rw [if_neg a]
    by_cases b : p = i ∧ q = c
    · rw [if_pos b, b.1, b.2]
      exact yand_subl _ _
    · rw [if_neg b]
      exact sub_rf ((hX p q p1 p2 q1 q2 pq).1.y hk)
theorem onL_sb {T f : Int → Int} {k n : Int} (h : TH T f k) (hn : n ≤ 8) : ∀ (l : List (Int × Int × Int)) (X : Int → Int), Vl n l → SN f k n X → Sb n (onL T f k X l) X ∧ ∀ Y, SN f k n Y → Cl T k n Y → Sb n Y X → Sb n Y (onL T f k X l)
  | [], X, _, hX => ⟨Sb.rf h.1 hX, fun Y _ _ hs => hs⟩
  | (i, j, c) :: r, X, hV, hX => by
    have hv : (0 ≤ i ∧ i < c ∧ c < n) ∧ 0 ≤ j ∧ j < n := hV (i, j, c) List.mem_cons_self
    have hr : Vl n r := fun t w => hV t (List.mem_cons_of_mem _ w)
    have hi : 0 ≤ i ∧ i < n := by omega
    have hc : 0 ≤ c ∧ c < n := by omega
    have hj : 0 ≤ j ∧ j < n := by omega
    have hic : i ≠ c := by omega
    simp only [onL]
    by_cases q1 : j = i ∨ j = c
    · rw [if_pos q1]
      exact onL_sb h hn r X hr hX
    · rw [if_neg q1]
      have d := Sb.down (j := j) h hn hX hi hc hic
      have su := hX.up h.1 h.2.1 hn hi hc hic (stp_se (T := T) (j := j) h.1 hX hi hc hic)
      by_cases q2 : stp T k X i j c = X (8 * i + c)
      · rw [if_pos q2]
        exact onL_sb h hn r X hr hX
      · rw [if_neg q2]
        by_cases q3 : stp T k X i j c = 0
        · rw [if_pos q3]
          exact ⟨d, fun Y hY hC hs => Sb.step h hn hX hY hC hs hi hj hc (fun e => q1 (Or.inl e.symm)) (fun e => q1 (Or.inr e)) hic⟩
        · rw [if_neg q3]
          have ih := onL_sb h hn r _ hr su
          exact ⟨Sb.tr h.1 (onL_ok h.1 h.2.1 hn r _ hr su).1 ih.1 d, fun Y hY hC hs => ih.2 Y hY hC (Sb.step h hn hX hY hC hs hi hj hc (fun e => q1 (Or.inl e.symm)) (fun e => q1 (Or.inr e)) hic)⟩
theorem onceP_sb {T f : Int → Int} {k n : Int} {X : Int → Int} (h : TH T f k) (hn : 0 ≤ n ∧ n ≤ 8) (hX : SN f k n X) : Sb n (onceP T f k n X) X ∧ ∀ Y, SN f k n Y → Cl T k n Y → Sb n Y X → Sb n Y (onceP T f k n X) := by
  unfold onceP
  split
  · exact ⟨Sb.rf h.1 hX, fun Y _ _ hs => hs⟩
  · exact onL_sb h hn.2 _ X (lI_v hn.1) hX
theorem fu_sb {T f : Int → Int} {k n : Int} (h : TH T f k) (hn : 0 ≤ n ∧ n ≤ 8) : ∀ (m : Nat) (X : Int → Int), SN f k n X → Sb n (fu T f k n m X) X ∧ ∀ Y, SN f k n Y → Cl T k n Y → Sb n Y X → Sb n Y (fu T f k n m X)
  | 0, X, hX => ⟨Sb.rf h.1 hX, fun Y _ _ hs => hs⟩
  | m + 1, X, hX => by
    have o := onceP_sb h hn hX
    have s := (onceP_ok (T := T) h.1 h.2.1 hn hX).1
    have ih := fu_sb h hn m _ s
    exact ⟨Sb.tr h.1 (fu_sn h.1 h.2.1 hn m _ s).1 ih.1 o.1, fun Y hY hC hs => ih.2 Y hY hC (o.2 Y hY hC hs)⟩
/-- a net that a closed one without an empty set lies within -/
def Good (T f : Int → Int) (k n : Int) (X : Int → Int) : Prop := ∃ Y, SN f k n Y ∧ Cl T k n Y ∧ Ne n Y ∧ Sb n Y X
theorem emB_ne {f : Int → Int} {k n : Int} {X : Int → Int} (hk : 1 ≤ k ∧ k ≤ 8) (hf : IV f k) (hn : n ≤ 8) (hX : SN f k n X) : emB n X = false ↔ Ne n X := by
  constructor
  · intro q i c i1 i2 c1 c2 ic e
    have : emB n X = true := by
      rw [emB_iff hn]
      rcases Int.lt_or_gt_of_ne ic with w | w
      · exact ⟨i, c, i1, w, c2, e⟩
      · refine ⟨c, i, c1, w, i2, ?_⟩
        have o := hX i c i1 i2 c1 c2 ic
        rw [o.2, e]
        exact (tP_0 hk hf ⟨by omega, by have := al_le hk; omega⟩).mpr rfl
    rw [q] at this
    cases this
  · intro q
    cases e : emB n X with
    | false => rfl
    | true =>
      obtain ⟨i, c, h1, h2, h3, h4⟩ := (emB_iff hn).mp e
      exact absurd h4 (q i c h1 (by omega) (by omega) h3 (by omega))
theorem fx_cl {T f : Int → Int} {k n : Int} {X : Int → Int} (h : TH T f k) (hn : 0 ≤ n ∧ n ≤ 8) (hX : SN f k n X) (e : onceP T f k n X = X) (he : emB n X = false) : Cl T k n X := by
  have e2 : onL T f k X (lI n 0) = X := by
    unfold onceP at e
    rw [he] at e
    rw [if_neg (by decide)] at e
    exact e
  have o := (onL_ok (T := T) h.1 h.2.1 hn.2 (lI n 0) X (lI_v hn.1) hX).2.2.2.2 e2
  intro i j c i1 i2 j1 j2 c1 c2 ij jc ic
  rcases Int.lt_or_gt_of_ne ic with w | w
  · exact o (i, j, c) (lI_m i1 ⟨w, c2⟩ ⟨j1, j2⟩) (fun q => ij q.symm) jc
  · exact stp_t h hX ⟨c1, c2⟩ ⟨j1, j2⟩ ⟨i1, i2⟩ (fun q => jc q.symm) (fun q => ij q.symm) (fun q => ic q.symm) (o (c, j, i) (lI_m c1 ⟨w, i2⟩ ⟨j1, j2⟩) jc (fun q => ij q.symm))
theorem full_good {T f : Int → Int} {k n : Int} {X : Int → Int} (h : TH T f k) (hn : 0 ≤ n ∧ n ≤ 8) (hX : SN f k n X) : emB n (fullP T f k n X) = false ↔ Good T f k n X := by
  have s := fullP_sn (T := T) h.1 h.2.1 hn hX
  have b := fu_sb h hn 300 X hX
  constructor
  · intro q
    exact ⟨_, s, fx_cl h hn s (fullP_fix h.1 h.2.1 hn hX) q, (emB_ne h.1 h.2.1 hn.2 s).mp q, b.1⟩
  · rintro ⟨Y, hY, hC, hN, hs⟩
    refine (emB_ne h.1 h.2.1 hn.2 s).mpr (fun i c i1 i2 c1 c2 ic e => ?_)
    have w := b.2 Y hY hC hs i c i1 i2 c1 c2 ic
    have e' : fu T f k n 300 X (8 * i + c) = 0 := e
    rw [e'] at w
    exact hN i c i1 i2 c1 c2 ic (sub_0 ((hY i c i1 i2 c1 c2 ic).1.y h.1) w)
/-- nets alike where there are points -/
def EqN (N N' : Int → Int) : Prop := ∀ x : Int, 0 ≤ x → x < 64 → N x = N' x
theorem EqN.up {N N' : Int → Int} (h : EqN N N') (i c s t : Int) : EqN (up2 N i c s t) (up2 N' i c s t) := fun x h1 h2 => by
  unfold up2
  rw [h x h1 h2]
theorem onL_eq {T f : Int → Int} {k n : Int} (hn : n ≤ 8) : ∀ (l : List (Int × Int × Int)) (N N' : Int → Int), Vl n l → EqN N N' → EqN (onL T f k N l) (onL T f k N' l)
  | [], N, N', _, h => h
  | (i, j, c) :: r, N, N', hV, h => by
    have hv : (0 ≤ i ∧ i < c ∧ c < n) ∧ 0 ≤ j ∧ j < n := hV (i, j, c) List.mem_cons_self
    have hr : Vl n r := fun t w => hV t (List.mem_cons_of_mem _ w)
    have e1 : N (8 * i + c) = N' (8 * i + c) := h _ (by omega) (by omega)
    have es : stp T k N i j c = stp T k N' i j c := by
      unfold stp
      rw [e1, h (8 * i + j) (by omega) (by omega), h (8 * j + c) (by omega) (by omega)]
    simp only [onL]
    rw [es, e1]
    split
    · exact onL_eq hn r N N' hr h
    · split
      · exact onL_eq hn r N N' hr h
      · split
        · exact h.up _ _ _ _
        · exact onL_eq hn r _ _ hr (h.up _ _ _ _)
theorem emB_eq {n : Int} {N N' : Int → Int} (h : EqN N N') : emB n N = emB n N' := by
  have key : ∀ l : List (Int × Int), (∀ p ∈ l, p ∈ up28) → (l.any fun p => decide (p.2 < n) && decide (N (8 * p.1 + p.2) = 0)) = (l.any fun p => decide (p.2 < n) && decide (N' (8 * p.1 + p.2) = 0)) := by
    intro l
    induction l with
    | nil => intro _; rfl
    | cons p r ih =>
      intro hl
      have := up28_of p (hl p List.mem_cons_self)
      rw [List.any_cons, List.any_cons, ih (fun q hq => hl q (List.mem_cons_of_mem _ hq)), h (8 * p.1 + p.2) (by omega) (by omega)]
  exact key up28 (fun _ h => h)
theorem onceP_eq {T f : Int → Int} {k n : Int} {N N' : Int → Int} (hn : 0 ≤ n ∧ n ≤ 8) (h : EqN N N') : EqN (onceP T f k n N) (onceP T f k n N') := by
  unfold onceP
  rw [emB_eq h]
  split
  · exact h
  · exact onL_eq hn.2 _ N N' (lI_v hn.1) h
theorem fu_eq {T f : Int → Int} {k n : Int} (hn : 0 ≤ n ∧ n ≤ 8) : ∀ (m : Nat) (N N' : Int → Int), EqN N N' → EqN (fu T f k n m N) (fu T f k n m N')
  | 0, _, _, h => h
  | m + 1, N, N', h => fu_eq hn m _ _ (onceP_eq hn h)
theorem fullP_eqn {T f : Int → Int} {k n : Int} {N N' : Int → Int} (hn : 0 ≤ n ∧ n ≤ 8) (h : EqN N N') : EqN (fullP T f k n N) (fullP T f k n N') := fu_eq hn 300 N N' h
theorem SN.eq {f : Int → Int} {k n : Int} {N N' : Int → Int} (hn : n ≤ 8) (h : SN f k n N) (e : EqN N N') : SN f k n N' := fun i c i1 i2 c1 c2 ic => by
  rw [← e (8 * i + c) (by omega) (by omega), ← e (8 * c + i) (by omega) (by omega)]
  exact h i c i1 i2 c1 c2 ic
theorem EqN.sy {N N' : Int → Int} (h : EqN N N') : EqN N' N := fun x h1 h2 => (h x h1 h2).symm
theorem EqN.tr {N N' N'' : Int → Int} (h : EqN N N') (h' : EqN N' N'') : EqN N N'' := fun x h1 h2 => (h x h1 h2).trans (h' x h1 h2)
theorem eqn_out {N N' : Int → Int} (h : EqN N N') (ho : ∀ x : Int, x < 0 ∨ 64 ≤ x → N x = N' x) : N = N' := funext fun x => by
  by_cases q : 0 ≤ x ∧ x < 64
  · exact h x q.1 q.2
  · exact ho x (by omega)
