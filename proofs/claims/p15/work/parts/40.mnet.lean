/-! MODEL: NETS -/
theorem yand_le {a b : Int} (ha : 0 ≤ a ∧ a < 2147483648) : 0 ≤ yand a b ∧ yand a b ≤ a := by
  have h1 : (Int32.ofInt a).toBitVec.toNat = a.toNat := by
    rw [Int32.toBitVec_ofInt, BitVec.toNat_ofInt]
    omega
  have h2 : ((Int32.ofInt a) &&& (Int32.ofInt b)).toBitVec.toNat ≤ a.toNat := by
    rw [Int32.toBitVec_and, BitVec.toNat_and, h1]
    exact Nat.and_le_left
  have h3 : yand a b = ((((Int32.ofInt a) &&& (Int32.ofInt b)).toBitVec.toNat : Nat) : Int) := by
    unfold yand
    exact BitVec.toInt_eq_toNat_of_lt (by omega)
  omega
theorem yand_drop {c a : Int} (hc : 0 ≤ c ∧ c < 2147483648) (ha : 0 ≤ a ∧ a < 8) (hb : yand (yshr c a) 1 = 1) : yand c (yxor (yshl 1 a) (-1)) < c := by
  have h1 := yand_le (b := yxor (yshl 1 a) (-1)) hc
  have h2 : yand c (yxor (yshl 1 a) (-1)) ≠ c := by
    intro q
    have h3 : bt c a.toNat = true := by
      rw [ytest hc (by omega)] at hb
      cases h : bt c a.toNat with
      | true => rfl
      | false => rw [h] at hb; exact absurd hb (by decide)
    have h4 : bt (yand c (yxor (yshl 1 a) (-1))) a.toNat = false := by
      rw [bt_yand, bt_not _ (by omega), bt_bit (by omega)]
      simp
    rw [q, h3] at h4
    cases h4
  omega
def isB (c : Int) : Prop := c = 0 ∨ ∃ x : Nat, x < 8 ∧ c = yshl 1 (x : Int)
theorem yshl_rng8 : ∀ x : Nat, x < 8 → 1 ≤ yshl 1 (x : Int) ∧ yshl 1 (x : Int) ≤ 128 := by decide +kernel
theorem isB_rng {c : Int} (h : isB c) : 0 ≤ c ∧ c ≤ 128 := by
  rcases h with rfl | ⟨x, hx, rfl⟩
  · omega
  · have := yshl_rng8 x hx
    omega
theorem isB_1 : isB 1 := Or.inr ⟨0, by omega, by decide⟩
theorem isB_bit {a : Int} (h : 0 ≤ a ∧ a < 8) : isB (yshl 1 a) := Or.inr ⟨a.toNat, by omega, by rw [show ((a.toNat : Nat) : Int) = a by omega]⟩
theorem isB_and {a b : Int} (h : isB a) : isB (yand a b) := by
  rcases h with rfl | ⟨x, hx, rfl⟩
  · left
    refine bt_ext (rng_yand _ _) (by decide) (fun i hi => ?_)
    rw [bt_yand, bt_0]
    rfl
  · by_cases q : bt b x = true
    · right
      refine ⟨x, hx, bt_ext (rng_yand _ _) (rng_yshl _ _) (fun i hi => ?_)⟩
      rw [bt_yand, bt_bit (by omega), Int.toNat_natCast]
      by_cases e : i = x
      · subst e; rw [q]; simp
      · simp [e]
    · left
      refine bt_ext (rng_yand _ _) (by decide) (fun i hi => ?_)
      rw [bt_yand, bt_bit (by omega), bt_0, Int.toNat_natCast]
      by_cases e : i = x
      · subst e; simp [q]
      · simp [e]
/-- the turn of a set, as the model makes it -/
def tOf (t : Int → Int) (s : Int) : Nat → Int
  | 0 => 0
  | n + 1 => yor (tOf t s n) (yshl (yand (yshr s (n : Int)) 1) (t (n : Int)))
theorem tOf_rng (t : Int → Int) (s : Int) (n : Nat) : -2147483648 ≤ tOf t s n ∧ tOf t s n < 2147483648 := by
  cases n with
  | zero => simp [tOf]
  | succ n => exact rng_yor _ _
theorem tOf_congr {t t' : Int → Int} {s : Int} : ∀ n : Nat, (∀ a : Int, 0 ≤ a → a < n → t a = t' a) → tOf t s n = tOf t' s n
  | 0, _ => rfl
  | n + 1, h => by
    simp only [tOf]
    rw [tOf_congr n (fun a h1 h2 => h a h1 (by omega)), h n (by omega) (by omega)]
theorem bit_in : ∀ x : Nat, x < 8 → ∀ n : Nat, n < 8 → yand (yshr (yshl 1 (x : Int)) (n : Int)) 1 = if n = x then 1 else 0 := by decide +kernel
theorem zero_in : ∀ n : Nat, n < 8 → yand (yshr 0 (n : Int)) 1 = 0 := by decide +kernel
theorem yshl_0 : ∀ m : Nat, m < 8 → yshl 0 (m : Int) = 0 := by decide +kernel
theorem yshl_0' {m : Int} (h : 0 ≤ m ∧ m < 8) : yshl 0 m = 0 := by
  obtain ⟨n, rfl⟩ := Int.eq_ofNat_of_zero_le h.1
  exact yshl_0 n (by omega)
theorem yor_0 {a : Int} (h : yR a) : yor a 0 = a := bt_ext (rng_yor _ _) h (fun i hi => by rw [bt_yor, bt_0, Bool.or_false])
theorem yor_0l {a : Int} (h : yR a) : yor 0 a = a := bt_ext (rng_yor _ _) h (fun i hi => by rw [bt_yor, bt_0, Bool.false_or])
theorem tOf_bit {t : Int → Int} (ht : ∀ a, 0 ≤ a → a < 8 → 0 ≤ t a ∧ t a < 8) {x : Nat} (hx : x < 8) : ∀ n : Nat, n ≤ 8 → tOf t (yshl 1 (x : Int)) n = if x < n then yshl 1 (t (x : Int)) else 0
  | 0, _ => by simp [tOf]
  | n + 1, h => by
    simp only [tOf]
    rw [tOf_bit ht hx n (by omega), bit_in x hx n (by omega)]
    by_cases e : n = x
    · subst e
      rw [if_neg (by omega), if_pos rfl, if_pos (by omega), yor_0l (rng_yshl _ _)]
    · rw [if_neg e, yshl_0' (ht n (by omega) (by omega))]
      by_cases l : x < n
      · rw [if_pos l, if_pos (by omega), yor_0 (rng_yshl _ _)]
      · rw [if_neg l, if_neg (by omega)]; decide
theorem tOf_0 {t : Int → Int} (ht : ∀ a, 0 ≤ a → a < 8 → 0 ≤ t a ∧ t a < 8) : ∀ n : Nat, n ≤ 8 → tOf t 0 n = 0
  | 0, _ => rfl
  | n + 1, h => by
    simp only [tOf]
    rw [tOf_0 ht n (by omega), zero_in n (by omega), yshl_0' (ht n (by omega) (by omega))]
    decide
theorem tOf_isB {t : Int → Int} (ht : ∀ a, 0 ≤ a → a < 8 → 0 ≤ t a ∧ t a < 8) {s : Int} (h : isB s) {n : Nat} (hn : n ≤ 8) : isB (tOf t s n) := by
  rcases h with rfl | ⟨x, hx, rfl⟩
  · rw [tOf_0 ht n hn]; exact Or.inl rfl
  · rw [tOf_bit ht hx n hn]
    split
    · exact isB_bit (ht x (by omega) (by omega))
    · exact Or.inl rfl
def cel (M : yM) (o i c : Int) : Int := ld M 100 (o + 8 * i + c)
def NN (M : yM) (o n : Int) : Prop := ∀ i c, 0 ≤ i → i < c → c < n → 0 ≤ cel M o i c
/-- what a narrowing leaves of a net -/
def OK1 (M M' : yM) (o n : Int) : Prop := (∀ i c, 0 ≤ i → i < c → c < n → 0 ≤ cel M' o i c ∧ cel M' o i c ≤ cel M o i c ∧ (isB (cel M o i c) → isB (cel M o c i) → isB (cel M' o i c) ∧ isB (cel M' o c i))) ∧ (∀ i, 0 ≤ i → i < n → cel M' o i i = cel M o i i)
def LT1 (M M' : yM) (o n : Int) : Prop := ∃ i c, 0 ≤ i ∧ i < c ∧ c < n ∧ cel M' o i c < cel M o i c
theorem OK1.rf {M : yM} {o n : Int} (h : NN M o n) : OK1 M M o n := ⟨fun i c h1 h2 h3 => ⟨h i c h1 h2 h3, Int.le_refl _, fun a b => ⟨a, b⟩⟩, fun _ _ _ => rfl⟩
theorem OK1.tr {M M1 M2 : yM} {o n : Int} (h : OK1 M M1 o n) (h' : OK1 M1 M2 o n) : OK1 M M2 o n :=
  ⟨fun i c h1 h2 h3 => by
    obtain ⟨a1, a2, a3⟩ := h.1 i c h1 h2 h3
    obtain ⟨b1, b2, b3⟩ := h'.1 i c h1 h2 h3
    exact ⟨b1, Int.le_trans b2 a2, fun p q => b3 (a3 p q).1 (a3 p q).2⟩, fun i h1 h2 => (h'.2 i h1 h2).trans (h.2 i h1 h2)⟩
theorem OK1.nn {M M' : yM} {o n : Int} (h : OK1 M M' o n) : NN M' o n := fun i c h1 h2 h3 => (h.1 i c h1 h2 h3).1
theorem LT1.l {M M1 M2 : yM} {o n : Int} (h : LT1 M M1 o n) (h' : OK1 M1 M2 o n) : LT1 M M2 o n := by
  obtain ⟨i, c, h1, h2, h3, h4⟩ := h
  exact ⟨i, c, h1, h2, h3, by have := (h'.1 i c h1 h2 h3).2.1; omega⟩
theorem LT1.r {M M1 M2 : yM} {o n : Int} (h : OK1 M M1 o n) (h' : LT1 M1 M2 o n) : LT1 M M2 o n := by
  obtain ⟨i, c, h1, h2, h3, h4⟩ := h'
  exact ⟨i, c, h1, h2, h3, by have := (h.1 i c h1 h2 h3).2.1; omega⟩
theorem cel_put2 {M : yM} {o i c s t : Int} (hs : yR s) (ht : yR t) (hi : 0 ≤ i ∧ i < c ∧ c < 8) (i' c' : Int) (hi' : 0 ≤ i' ∧ i' < 8 ∧ 0 ≤ c' ∧ c' < 8) : cel (put (put M 100 (o + 8 * i + c) s) 100 (o + 8 * c + i) t) o i' c' = if i' = c ∧ c' = i then t else if i' = i ∧ c' = c then s else cel M o i' c' := by
  unfold cel
  rw [ld_put ht, ld_put hs]
  by_cases a : i' = c ∧ c' = i
  · rw [if_pos a, if_pos ⟨rfl, by omega⟩]
  · rw [if_neg a, if_neg (fun q => a (by omega))]
    by_cases b : i' = i ∧ c' = c
    · rw [if_pos b, if_pos ⟨rfl, by omega⟩]
    · rw [if_neg b, if_neg (fun q => b (by omega))]
theorem OK1.one {M M' : yM} {o n i c s t : Int} (hn : n ≤ 8) (hi : 0 ≤ i ∧ i < c ∧ c < n) (e : M' = put (put M 100 (o + 8 * i + c) s) 100 (o + 8 * c + i) t) (hN : NN M o n) (rs : yR s) (rt : yR t) (hs : 0 ≤ s ∧ s ≤ cel M o i c) (hB : isB (cel M o i c) → isB s) (hT : isB s → isB t) : OK1 M M' o n := by
  subst e
  refine ⟨fun i' c' h1 h2 h3 => ?_, fun i' h1 h2 => ?_⟩
  · rw [cel_put2 rs rt (by omega) i' c' (by omega), cel_put2 rs rt (by omega) c' i' (by omega)]
    rw [if_neg (by omega : ¬ (i' = c ∧ c' = i)), if_neg (by omega : ¬ (c' = i ∧ i' = c))]
    by_cases q : i' = i ∧ c' = c
    · obtain ⟨rfl, rfl⟩ := q
      rw [if_pos ⟨rfl, rfl⟩, if_pos ⟨rfl, rfl⟩]
      exact ⟨hs.1, hs.2, fun a b => ⟨hB a, hT (hB a)⟩⟩
    · rw [if_neg q, if_neg (by omega)]
      exact ⟨hN i' c' h1 h2 h3, Int.le_refl _, fun a b => ⟨a, b⟩⟩
  · rw [cel_put2 rs rt (by omega) i' i' (by omega), if_neg (by omega), if_neg (by omega)]
theorem LT1.one {M M' : yM} {o n i c s t : Int} (hn : n ≤ 8) (hi : 0 ≤ i ∧ i < c ∧ c < n) (e : M' = put (put M 100 (o + 8 * i + c) s) 100 (o + 8 * c + i) t) (rs : yR s) (rt : yR t) (hs : s < cel M o i c) : LT1 M M' o n := by
  subst e
  refine ⟨i, c, hi.1, hi.2.1, hi.2.2, ?_⟩
  rw [cel_put2 rs rt (by omega) i c (by omega), if_neg (by omega), if_pos ⟨rfl, rfl⟩]
  exact hs
theorem OK1.frm {W : Nat → Int → Prop} {M M1 M2 : yM} {o n : Int} (hn : n ≤ 8) (h : OK1 M M1 o n) (f : fr W M1 M2) (hw : ∀ j, o ≤ j → j < o + 64 → ¬ W 100 j) : OK1 M M2 o n := by
  have e : ∀ i c, 0 ≤ i → i < n → 0 ≤ c → c < n → cel M2 o i c = cel M1 o i c := fun i c h1 h2 h3 h4 => f.ld (hw _ (by omega) (by omega))
  refine ⟨fun i c h1 h2 h3 => ?_, fun i h1 h2 => ?_⟩
  · rw [e i c h1 (by omega) (by omega) h3, e c i (by omega) h3 h1 (by omega)]
    exact h.1 i c h1 h2 h3
  · rw [e i i h1 h2 h1 h2]
    exact h.2 i h1 h2
theorem NN.frm {W : Nat → Int → Prop} {M1 M2 : yM} {o n : Int} (hn : n ≤ 8) (h : NN M1 o n) (f : fr W M1 M2) (hw : ∀ j, o ≤ j → j < o + 64 → ¬ W 100 j) : NN M2 o n := fun i c h1 h2 h3 => by
  have e : cel M2 o i c = cel M1 o i c := f.ld (hw _ (by omega) (by omega))
  rw [e]
  exact h i c h1 h2 h3
/-! the mass of a net -/
def up28 : List (Int × Int) := (List.range 8).flatMap fun (c : Nat) => (List.range c).map fun (i : Nat) => ((i : Int), (c : Int))
theorem up28_in : ∀ c : Nat, c < 8 → ∀ i : Nat, i < c → ((i : Int), (c : Int)) ∈ up28 := by decide +kernel
theorem up28_of : ∀ p ∈ up28, 0 ≤ p.1 ∧ p.1 < p.2 ∧ p.2 < 8 := by decide +kernel
theorem up28_len : up28.length = 28 := by decide +kernel
def ms (n : Int) (f : Int → Int → Int) : List (Int × Int) → Int
  | [] => 0
  | p :: r => (if p.2 < n then f p.1 p.2 else 0) + ms n f r
theorem ms_le {n : Int} {f g : Int → Int → Int} : ∀ (l : List (Int × Int)), (∀ p ∈ l, p.2 < n → g p.1 p.2 ≤ f p.1 p.2) → ms n g l ≤ ms n f l
  | [], _ => Int.le_refl _
  | p :: r, h => by
    have ih := ms_le r (fun q hq => h q (List.mem_cons_of_mem _ hq))
    have h0 := h p List.mem_cons_self
    simp only [ms]
    by_cases q : p.2 < n
    · rw [if_pos q, if_pos q]
      have := h0 q
      omega
    · rw [if_neg q, if_neg q]
      omega
theorem ms_lt {n : Int} {f g : Int → Int → Int} : ∀ (l : List (Int × Int)), (∀ p ∈ l, p.2 < n → g p.1 p.2 ≤ f p.1 p.2) → (∃ p ∈ l, p.2 < n ∧ g p.1 p.2 < f p.1 p.2) → ms n g l < ms n f l
  | [], _, h => by obtain ⟨p, hp, _⟩ := h; cases hp
  | p :: r, h, h' => by
    have h0 := h p List.mem_cons_self
    have h1 := fun q hq => h q (List.mem_cons_of_mem p hq)
    obtain ⟨q, hq, hq1, hq2⟩ := h'
    simp only [ms]
    rcases List.mem_cons.mp hq with rfl | hq
    · have ih := ms_le (n := n) r h1
      rw [if_pos hq1, if_pos hq1]
      omega
    · have ih := ms_lt r h1 ⟨q, hq, hq1, hq2⟩
      by_cases e : p.2 < n
      · rw [if_pos e, if_pos e]
        have := h0 e
        omega
      · rw [if_neg e, if_neg e]
        omega
theorem ms_nn {n : Int} {f : Int → Int → Int} : ∀ (l : List (Int × Int)), (∀ p ∈ l, p.2 < n → 0 ≤ f p.1 p.2) → 0 ≤ ms n f l
  | [], _ => Int.le_refl _
  | p :: r, h => by
    have ih := ms_nn r (fun q hq => h q (List.mem_cons_of_mem _ hq))
    have h0 := h p List.mem_cons_self
    simp only [ms]
    by_cases q : p.2 < n
    · rw [if_pos q]; have := h0 q; omega
    · rw [if_neg q]; omega
theorem ms_top {n : Int} {f : Int → Int → Int} (h : ∀ a b, f a b ≤ 2147483648) : ∀ (l : List (Int × Int)), ms n f l ≤ 2147483648 * l.length
  | [] => Int.le_refl _
  | p :: r => by
    have ih := ms_top (n := n) h r
    have h0 := h p.1 p.2
    simp only [ms, List.length_cons]
    split <;> omega
def mass (M : yM) (o n : Int) : Int := ms n (cel M o) up28
theorem OK1.mass {M M' : yM} {o n : Int} (h : OK1 M M' o n) : mass M' o n ≤ mass M o n := ms_le _ (fun p hp hn => by
  have := up28_of p hp
  exact (h.1 p.1 p.2 this.1 this.2.1 hn).2.1)
theorem LT1.mass {M M' : yM} {o n : Int} (hn : n ≤ 8) (h : OK1 M M' o n) (h' : LT1 M M' o n) : mass M' o n < mass M o n := by
  refine ms_lt _ (fun p hp hn => ?_) ?_
  · have := up28_of p hp
    exact (h.1 p.1 p.2 this.1 this.2.1 hn).2.1
  · obtain ⟨i, c, h1, h2, h3, h4⟩ := h'
    refine ⟨(i, c), ?_, h3, h4⟩
    have := up28_in c.toNat (by omega) i.toNat (by omega)
    rw [show ((i.toNat : Nat) : Int) = i by omega, show ((c.toNat : Nat) : Int) = c by omega] at this
    exact this
theorem NN.mass {M : yM} {o n : Int} (h : NN M o n) : 0 ≤ mass M o n := ms_nn _ (fun p hp hn => by
  have := up28_of p hp
  exact h p.1 p.2 this.1 this.2.1 hn)
theorem mass_top (M : yM) (o n : Int) : mass M o n ≤ 60129542144 := by
  have := ms_top (n := n) (f := cel M o) (fun a b => by have := rng_ld M 100 (o + 8 * a + b); unfold cel; omega) up28
  rw [up28_len] at this
  exact this
theorem mass_eq {M M' : yM} {o n : Int} (h : ∀ i c, 0 ≤ i → i < c → c < 8 → cel M' o i c = cel M o i c) : mass M' o n = mass M o n := by
  have h1 : ∀ p ∈ up28, cel M' o p.1 p.2 = cel M o p.1 p.2 := fun p hp => by
    have := up28_of p hp
    exact h p.1 p.2 this.1 this.2.1 this.2.2
  exact Int.le_antisymm (ms_le _ (fun p hp _ => Int.le_of_eq (h1 p hp))) (ms_le _ (fun p hp _ => Int.le_of_eq (h1 p hp).symm))
theorem c12_allw {d : Nat} {Q : Int → yM → Prop} {M : yM} (hk : 0 ≤ ld M 92 2 ∧ ld M 92 2 ≤ 8) (k : ∀ v, 0 ≤ v ∧ v ≤ 255 → Q v M) : XCi d 121 [.inr (.inr 92)] M Q := by
  refine c12_all hk (k _ ?_)
  obtain ⟨n, e⟩ := Int.eq_ofNat_of_zero_le hk.1
  rw [e]
  have := al_n n (by omega)
  omega
theorem c12_turnedOf {d : Nat} {Q : Int → yM → Prop} {M : yM} {x1 : Int} (hmk : 1 ≤ ld M 92 2 ∧ ld M 92 2 ≤ 8) (k : Q (tOf (ld M 93) x1 (ld M 92 2).toNat) M) : XCi d 136 [.inr (.inr 92), .inl x1] M Q := by
  refine eX12_turnedOf ?_
  refine uX12_turnedOf_0 ?_
  have loop : ∀ (m n : Nat), (n : Int) + m = ld M 92 2 → XW kX12_turnedOf d (some .int) (wQi Q) 4 [some (.inr (.inr 92)), some (.inl x1), some (.inl (tOf (ld M 93) x1 n)), some (.inl (n : Int))] [] M := by
    intro m
    induction m with
    | zero =>
      intro n hn
      refine uX12_turnedOf_4 (by omega) (fun _ => ?_) (fun _ => by omega)
      refine uX12_turnedOf_33 ?_
      rw [show (ld M 92 2).toNat = n by omega] at k
      exact k
    | succ m ih =>
      intro n hn
      refine uX12_turnedOf_4 (by omega) (fun _ => by omega) (fun _ => ?_)
      refine uX12_turnedOf_12 (by omega) ?_
      exact ih (n + 1) (by omega)
  exact loop (ld M 92 2).toNat 0 (by omega)
theorem ld_fun {M M' : yM} {o : Nat} (h : M'.1 o = M.1 o) : ld M' o = ld M o := by
  funext j
  unfold ld
  rw [h]
theorem c12_puts {d : Nat} {Q : yM → Prop} {M : yM} {x1 x2 x3 x4 : Int} (hmk : 1 ≤ ld M 92 2 ∧ ld M 92 2 ≤ 8) (h2 : 0 ≤ x1 + 8 * x2 + x3 ∧ x1 + 8 * x2 + x3 < 2048) (h3 : 0 ≤ x1 + 8 * x3 + x2 ∧ x1 + 8 * x3 + x2 < 2048) (k : ∀ M', fr (fun o j => o = 100 ∧ (j = x1 + 8 * x2 + x3 ∨ j = x1 + 8 * x3 + x2)) M M' → M' = put (put M 100 (x1 + 8 * x2 + x3) x4) 100 (x1 + 8 * x3 + x2) (tOf (ld M 93) x4 (ld M 92 2).toNat) → Q M') : XCv (d + 1) 144 [.inr (.inr 92), .inl x1, .inl x2, .inl x3, .inl x4] M Q := by
  refine eX12_puts ?_
  refine uX12_puts_0 h2 ?_
  intro M1 e1
  have f1 : fr (fun o j => o = 100 ∧ (j = x1 + 8 * x2 + x3 ∨ j = x1 + 8 * x3 + x2)) M M1 := fr.put fr.rf e1 ⟨rfl, Or.inl rfl⟩
  have k2 : ld M1 92 2 = ld M 92 2 := f1.ld (by omega)
  have k93 : ld M1 93 = ld M 93 := ld_fun (by rw [e1]; exact put_ne _ _ _ (by omega))
  refine uX12_puts_15 ?_
  refine c12_turnedOf (by omega) ?_
  refine uX12_puts_33 h3 ?_
  intro M2 e2
  refine uX12_puts_34 ?_
  refine k M2 (fr.put f1 e2 ⟨rfl, Or.inr rfl⟩) ?_
  rw [e2, k93, k2, e1]
theorem cpy_step {M P M' : yM} {x1 x2 x3 : Int} (e : M' = put P 100 (x2 + x3) (ld P 100 (x1 + x3))) (h : ∀ j, 0 ≤ j → j < x3 → ld P 100 (x2 + j) = ld M 100 (x1 + j)) (hx : ld P 100 (x1 + x3) = ld M 100 (x1 + x3)) : ∀ j, 0 ≤ j → j < x3 + 1 → ld M' 100 (x2 + j) = ld M 100 (x1 + j) := by
  intro j h1 h2
  rw [e, ld_put (rng_ld _ _ _)]
  by_cases q : j = x3
  · rw [if_pos ⟨rfl, by omega⟩, q]; exact hx
  · rw [if_neg (fun r => q (by omega))]; exact h j h1 (by omega)
theorem c12_mayBe {d : Nat} {Q : Int → yM → Prop} {M : yM} {x1 : Int} {x2 : Int} {x3 : Int}  (h8 : 0 ≤ 8 * x1 + x2 ∧ 8 * x1 + x2 < 64) (k : ∀ (v : Int), (v = 0 ∨ v = 1) → Q v M) : XCi d 125 [.inr (.inr 92), .inl x1, .inl x2, .inl x3] M Q := by
  refine eX12_mayBe ?_
  refine uX12_mayBe_0 (by first | omega | assumption | with_reducible exact rng_ld _ _ _ | with_reducible exact rng_yand _ _ | with_reducible exact rng_yor _ _ | with_reducible exact rng_zcmp _ _ | with_reducible exact yand7 _ | with_reducible exact rng_toInt _ | with_reducible exact yarr23 (by omega) | with_reducible exact yarr57 (by omega) | with_reducible exact Or.inl rfl | with_reducible exact Or.inr rfl) (fun hc => ?_) (fun hc => ?_)
  · skip
    refine uX12_mayBe_23 ?_
    refine uX12_mayBe_24 (by first | omega | assumption | with_reducible exact rng_ld _ _ _ | with_reducible exact rng_yand _ _ | with_reducible exact rng_yor _ _ | with_reducible exact rng_zcmp _ _ | with_reducible exact yand7 _ | with_reducible exact rng_toInt _ | with_reducible exact yarr23 (by omega) | with_reducible exact yarr57 (by omega) | with_reducible exact Or.inl rfl | with_reducible exact Or.inr rfl) ?_
    exact k _ (by first | omega | assumption | with_reducible exact rng_ld _ _ _ | with_reducible exact rng_yand _ _ | with_reducible exact rng_yor _ _ | with_reducible exact rng_zcmp _ _ | with_reducible exact yand7 _ | with_reducible exact rng_toInt _ | with_reducible exact yarr23 (by omega) | with_reducible exact yarr57 (by omega) | with_reducible exact Or.inl rfl | with_reducible exact Or.inr rfl)
  · skip
    refine uX12_mayBe_19 ?_
    refine uX12_mayBe_24 (by first | omega | assumption | with_reducible exact rng_ld _ _ _ | with_reducible exact rng_yand _ _ | with_reducible exact rng_yor _ _ | with_reducible exact rng_zcmp _ _ | with_reducible exact yand7 _ | with_reducible exact rng_toInt _ | with_reducible exact yarr23 (by omega) | with_reducible exact yarr57 (by omega) | with_reducible exact Or.inl rfl | with_reducible exact Or.inr rfl) ?_
    exact k _ (by first | omega | assumption | with_reducible exact rng_ld _ _ _ | with_reducible exact rng_yand _ _ | with_reducible exact rng_yor _ _ | with_reducible exact rng_zcmp _ _ | with_reducible exact yand7 _ | with_reducible exact rng_toInt _ | with_reducible exact yarr23 (by omega) | with_reducible exact yarr57 (by omega) | with_reducible exact Or.inl rfl | with_reducible exact Or.inr rfl)
theorem c12_joinOf {d : Nat} {Q : Int → yM → Prop} {M : yM} {x1 : Int} {x2 : Int}  (hmk : 1 ≤ ld M 92 2 ∧ ld M 92 2 ≤ 8) (k : ∀ (v : Int), (-2147483648 ≤ v ∧ v < 2147483648) → Q v M) : XCi d 134 [.inr (.inr 92), .inl x1, .inl x2] M Q := by
  refine eX12_joinOf ?_
  have go : ∀ N : Nat, (∀ (x1 : Int) (x2 : Int) (x3 : Int) (x4 : Int) (wx5 : Option yV), (0 ≤ x4 ∧ x4 ≤ 8) → (-2147483648 ≤ x3 ∧ x3 < 2147483648) → ((8 - x4) * 40 + 20 < (N : Int)) → XW kX12_joinOf d (some .int) (wQi Q) 5 [some (.inr (.inr 92)), some (.inl x1), some (.inl x2), some (.inl x3), some (.inl x4), wx5] [] M) ∧ (∀ (x1 : Int) (x2 : Int) (x3 : Int) (x4 : Int) (x5 : Int), (0 ≤ x4 ∧ x4 < 8) → (0 ≤ x5 ∧ x5 ≤ 8) → (-2147483648 ≤ x3 ∧ x3 < 2147483648) → ((8 - x4) * 40 + (8 - x5) * 1 + 0 < (N : Int)) → XW kX12_joinOf d (some .int) (wQi Q) 17 [some (.inr (.inr 92)), some (.inl x1), some (.inl x2), some (.inl x3), some (.inl x4), some (.inl x5)] [] M) := by
    intro N
    induction N with
    | zero => refine ⟨?_, ?_⟩ <;> (intros; exfalso; omega)
    | succ N ih =>
      obtain ⟨ih0, ih1⟩ := ih
      refine ⟨?_, ?_⟩
      · skip
        skip
        intro x1 x2 x3 x4 wx5 i0 i1 hm
        refine uX12_joinOf_5 (by first | omega | assumption | with_reducible exact rng_ld _ _ _ | with_reducible exact rng_yand _ _ | with_reducible exact rng_yor _ _ | with_reducible exact rng_zcmp _ _ | with_reducible exact yand7 _ | with_reducible exact rng_toInt _ | with_reducible exact yarr23 (by omega) | with_reducible exact yarr57 (by omega) | with_reducible exact Or.inl rfl | with_reducible exact Or.inr rfl) (fun hc => ?_) (fun hc => ?_)
        · skip
          refine uX12_joinOf_78 ?_
          exact k _ (by first | omega | assumption | with_reducible exact rng_ld _ _ _ | with_reducible exact rng_yand _ _ | with_reducible exact rng_yor _ _ | with_reducible exact rng_zcmp _ _ | with_reducible exact yand7 _ | with_reducible exact rng_toInt _ | with_reducible exact yarr23 (by omega) | with_reducible exact yarr57 (by omega) | with_reducible exact Or.inl rfl | with_reducible exact Or.inr rfl)
        · skip
          refine uX12_joinOf_14 ?_
          exact ih1 _ _ _ _ _  (by first | omega | assumption | with_reducible exact rng_ld _ _ _ | with_reducible exact rng_yand _ _ | with_reducible exact rng_yor _ _ | with_reducible exact rng_zcmp _ _ | with_reducible exact yand7 _ | with_reducible exact rng_toInt _ | with_reducible exact yarr23 (by omega) | with_reducible exact yarr57 (by omega) | with_reducible exact Or.inl rfl | with_reducible exact Or.inr rfl) (by first | omega | assumption | with_reducible exact rng_ld _ _ _ | with_reducible exact rng_yand _ _ | with_reducible exact rng_yor _ _ | with_reducible exact rng_zcmp _ _ | with_reducible exact yand7 _ | with_reducible exact rng_toInt _ | with_reducible exact yarr23 (by omega) | with_reducible exact yarr57 (by omega) | with_reducible exact Or.inl rfl | with_reducible exact Or.inr rfl) (by first | omega | assumption | with_reducible exact rng_ld _ _ _ | with_reducible exact rng_yand _ _ | with_reducible exact rng_yor _ _ | with_reducible exact rng_zcmp _ _ | with_reducible exact yand7 _ | with_reducible exact rng_toInt _ | with_reducible exact yarr23 (by omega) | with_reducible exact yarr57 (by omega) | with_reducible exact Or.inl rfl | with_reducible exact Or.inr rfl) (by omega)
      · skip
        skip
        intro x1 x2 x3 x4 x5 i0 i1 i2 hm
        refine uX12_joinOf_17 (by first | omega | assumption | with_reducible exact rng_ld _ _ _ | with_reducible exact rng_yand _ _ | with_reducible exact rng_yor _ _ | with_reducible exact rng_zcmp _ _ | with_reducible exact yand7 _ | with_reducible exact rng_toInt _ | with_reducible exact yarr23 (by omega) | with_reducible exact yarr57 (by omega) | with_reducible exact Or.inl rfl | with_reducible exact Or.inr rfl) (fun hc => ?_) (fun hc => ?_)
        · skip
          refine uX12_joinOf_72 ?_
          exact ih0 _ _ _ _ _  (by first | omega | assumption | with_reducible exact rng_ld _ _ _ | with_reducible exact rng_yand _ _ | with_reducible exact rng_yor _ _ | with_reducible exact rng_zcmp _ _ | with_reducible exact yand7 _ | with_reducible exact rng_toInt _ | with_reducible exact yarr23 (by omega) | with_reducible exact yarr57 (by omega) | with_reducible exact Or.inl rfl | with_reducible exact Or.inr rfl) (by first | omega | assumption | with_reducible exact rng_ld _ _ _ | with_reducible exact rng_yand _ _ | with_reducible exact rng_yor _ _ | with_reducible exact rng_zcmp _ _ | with_reducible exact yand7 _ | with_reducible exact rng_toInt _ | with_reducible exact yarr23 (by omega) | with_reducible exact yarr57 (by omega) | with_reducible exact Or.inl rfl | with_reducible exact Or.inr rfl) (by omega)
        · skip
          refine uX12_joinOf_26 (fun hc => ?_) (fun hc => ?_)
          · skip
            refine uX12_joinOf_72 ?_
            exact ih0 _ _ _ _ _  (by first | omega | assumption | with_reducible exact rng_ld _ _ _ | with_reducible exact rng_yand _ _ | with_reducible exact rng_yor _ _ | with_reducible exact rng_zcmp _ _ | with_reducible exact yand7 _ | with_reducible exact rng_toInt _ | with_reducible exact yarr23 (by omega) | with_reducible exact yarr57 (by omega) | with_reducible exact Or.inl rfl | with_reducible exact Or.inr rfl) (by first | omega | assumption | with_reducible exact rng_ld _ _ _ | with_reducible exact rng_yand _ _ | with_reducible exact rng_yor _ _ | with_reducible exact rng_zcmp _ _ | with_reducible exact yand7 _ | with_reducible exact rng_toInt _ | with_reducible exact yarr23 (by omega) | with_reducible exact yarr57 (by omega) | with_reducible exact Or.inl rfl | with_reducible exact Or.inr rfl) (by omega)
          · skip
            refine uX12_joinOf_36 (fun hc => ?_) (fun hc => ?_)
            · skip
              refine uX12_joinOf_63 ?_
              refine uX12_joinOf_64 ?_
              exact ih1 _ _ _ _ _  (by first | omega | assumption | with_reducible exact rng_ld _ _ _ | with_reducible exact rng_yand _ _ | with_reducible exact rng_yor _ _ | with_reducible exact rng_zcmp _ _ | with_reducible exact yand7 _ | with_reducible exact rng_toInt _ | with_reducible exact yarr23 (by omega) | with_reducible exact yarr57 (by omega) | with_reducible exact Or.inl rfl | with_reducible exact Or.inr rfl) (by first | omega | assumption | with_reducible exact rng_ld _ _ _ | with_reducible exact rng_yand _ _ | with_reducible exact rng_yor _ _ | with_reducible exact rng_zcmp _ _ | with_reducible exact yand7 _ | with_reducible exact rng_toInt _ | with_reducible exact yarr23 (by omega) | with_reducible exact yarr57 (by omega) | with_reducible exact Or.inl rfl | with_reducible exact Or.inr rfl) (by first | omega | assumption | with_reducible exact rng_ld _ _ _ | with_reducible exact rng_yand _ _ | with_reducible exact rng_yor _ _ | with_reducible exact rng_zcmp _ _ | with_reducible exact yand7 _ | with_reducible exact rng_toInt _ | with_reducible exact yarr23 (by omega) | with_reducible exact yarr57 (by omega) | with_reducible exact Or.inl rfl | with_reducible exact Or.inr rfl) (by omega)
            · skip
              refine uX12_joinOf_47 (by first | omega | assumption | with_reducible exact rng_ld _ _ _ | with_reducible exact rng_yand _ _ | with_reducible exact rng_yor _ _ | with_reducible exact rng_zcmp _ _ | with_reducible exact yand7 _ | with_reducible exact rng_toInt _ | with_reducible exact yarr23 (by omega) | with_reducible exact yarr57 (by omega) | with_reducible exact Or.inl rfl | with_reducible exact Or.inr rfl) ?_
              refine uX12_joinOf_64 ?_
              exact ih1 _ _ _ _ _  (by first | omega | assumption | with_reducible exact rng_ld _ _ _ | with_reducible exact rng_yand _ _ | with_reducible exact rng_yor _ _ | with_reducible exact rng_zcmp _ _ | with_reducible exact yand7 _ | with_reducible exact rng_toInt _ | with_reducible exact yarr23 (by omega) | with_reducible exact yarr57 (by omega) | with_reducible exact Or.inl rfl | with_reducible exact Or.inr rfl) (by first | omega | assumption | with_reducible exact rng_ld _ _ _ | with_reducible exact rng_yand _ _ | with_reducible exact rng_yor _ _ | with_reducible exact rng_zcmp _ _ | with_reducible exact yand7 _ | with_reducible exact rng_toInt _ | with_reducible exact yarr23 (by omega) | with_reducible exact yarr57 (by omega) | with_reducible exact Or.inl rfl | with_reducible exact Or.inr rfl) (by first | omega | assumption | with_reducible exact rng_ld _ _ _ | with_reducible exact rng_yand _ _ | with_reducible exact rng_yor _ _ | with_reducible exact rng_zcmp _ _ | with_reducible exact yand7 _ | with_reducible exact rng_toInt _ | with_reducible exact yarr23 (by omega) | with_reducible exact yarr57 (by omega) | with_reducible exact Or.inl rfl | with_reducible exact Or.inr rfl) (by omega)
  refine uX12_joinOf_0 ?_
  exact (go 1000000).1 _ _ _ _ _  (by first | omega | assumption | with_reducible exact rng_ld _ _ _ | with_reducible exact rng_yand _ _ | with_reducible exact rng_yor _ _ | with_reducible exact rng_zcmp _ _ | with_reducible exact yand7 _ | with_reducible exact rng_toInt _ | with_reducible exact yarr23 (by omega) | with_reducible exact yarr57 (by omega) | with_reducible exact Or.inl rfl | with_reducible exact Or.inr rfl) (by first | omega | assumption | with_reducible exact rng_ld _ _ _ | with_reducible exact rng_yand _ _ | with_reducible exact rng_yor _ _ | with_reducible exact rng_zcmp _ _ | with_reducible exact yand7 _ | with_reducible exact rng_toInt _ | with_reducible exact yarr23 (by omega) | with_reducible exact yarr57 (by omega) | with_reducible exact Or.inl rfl | with_reducible exact Or.inr rfl) (by omega)
theorem c12_copies {d : Nat} {Q : yM → Prop} {M : yM} {x1 : Int} {x2 : Int}  (h1 : 0 ≤ x1 ∧ x1 + 64 ≤ x2 ∧ x2 + 64 ≤ 2048) (k : ∀ (M' : yM), fr (fun o j => o = 100 ∧ x2 ≤ j ∧ j < x2 + 64) M M' → (∀ j, 0 ≤ j → j < 64 → ld M' 100 (x2 + j) = ld M 100 (x1 + j)) → Q M') : XCv d 146 [.inr (.inr 92), .inl x1, .inl x2] M Q := by
  refine eX12_copies ?_
  have fM : fr (fun o j => o = 100 ∧ x2 ≤ j ∧ j < x2 + 64) M M := fr.rf
  have c0 : ∀ j : Int, 0 ≤ j → j < 0 → ld M 100 (x2 + j) = ld M 100 (x1 + j) := fun j _ _ => by omega
  have go : ∀ N : Nat, (∀ (x3 : Int) (M9 : yM), fr (fun o j => o = 100 ∧ x2 ≤ j ∧ j < x2 + 64) M M9 → (0 ≤ x3 ∧ x3 ≤ 64) → (∀ j, 0 ≤ j → j < x3 → ld M9 100 (x2 + j) = ld M 100 (x1 + j)) → ((64 - x3) * 1 + 0 < (N : Int)) → XW kX12_copies d none (wQv Q) 2 [some (.inr (.inr 92)), some (.inl x1), some (.inl x2), some (.inl x3)] [] M9) := by
    intro N
    induction N with
    | zero => intros; exfalso; omega
    | succ N ih =>
      have ih0 := ih
      clear fM
      intro x3 M1 fM i0 i1 hm
      refine uX12_copies_2 (by first | omega | assumption | with_reducible exact rng_ld _ _ _ | with_reducible exact rng_yand _ _ | with_reducible exact rng_yor _ _ | with_reducible exact rng_zcmp _ _ | with_reducible exact yand7 _ | with_reducible exact rng_toInt _ | with_reducible exact yarr23 (by omega) | with_reducible exact yarr57 (by omega) | with_reducible exact Or.inl rfl | with_reducible exact Or.inr rfl) (fun hc => ?_) (fun hc => ?_)
      · skip
        refine uX12_copies_30 ?_
        exact k _ fM (fun j h1 h2 => i1 j h1 (by omega))
      · skip
        have fPrev := fM
        refine uX12_copies_8 (by first | omega | assumption | with_reducible exact rng_ld _ _ _ | with_reducible exact rng_yand _ _ | with_reducible exact rng_yor _ _ | with_reducible exact rng_zcmp _ _ | with_reducible exact yand7 _ | with_reducible exact rng_toInt _ | with_reducible exact yarr23 (by omega) | with_reducible exact yarr57 (by omega) | with_reducible exact Or.inl rfl | with_reducible exact Or.inr rfl) (by first | omega | assumption | with_reducible exact rng_ld _ _ _ | with_reducible exact rng_yand _ _ | with_reducible exact rng_yor _ _ | with_reducible exact rng_zcmp _ _ | with_reducible exact yand7 _ | with_reducible exact rng_toInt _ | with_reducible exact yarr23 (by omega) | with_reducible exact yarr57 (by omega) | with_reducible exact Or.inl rfl | with_reducible exact Or.inr rfl) ?_
        intro M2 hM2
        replace fM := fr.put fM hM2 (by first | omega | (dsimp only [wSub, wRun, wNar, wFil, wCan, wLst, wCar, wDr]; done) | (dsimp only [wSub, wRun, wNar, wFil, wCan, wLst, wCar, wDr]; omega) | (simp [wSub, wRun, wNar, wFil, wCan, wLst, wCar, wDr]; done) | (simp [wSub, wRun, wNar, wFil, wCan, wLst, wCar, wDr]; omega))
        have c1 := cpy_step hM2 (by assumption) (by rw [show ld M1 100 (x1 + x3) = ld M 100 (x1 + x3) from fPrev.ld (by omega)])
        refine uX12_copies_24 ?_
        exact ih0 _ M2 fM (by first | omega | assumption | with_reducible exact rng_ld _ _ _ | with_reducible exact rng_yand _ _ | with_reducible exact rng_yor _ _ | with_reducible exact rng_zcmp _ _ | with_reducible exact yand7 _ | with_reducible exact rng_toInt _ | with_reducible exact yarr23 (by omega) | with_reducible exact yarr57 (by omega) | with_reducible exact Or.inl rfl | with_reducible exact Or.inr rfl) (by first | omega | assumption | with_reducible exact rng_ld _ _ _ | with_reducible exact rng_yand _ _ | with_reducible exact rng_yor _ _ | with_reducible exact rng_zcmp _ _ | with_reducible exact yand7 _ | with_reducible exact rng_toInt _ | with_reducible exact yarr23 (by omega) | with_reducible exact yarr57 (by omega) | with_reducible exact Or.inl rfl | with_reducible exact Or.inr rfl) (by omega)
  refine uX12_copies_0 ?_
  exact (go 1000000) _ M fM (by first | omega | assumption | with_reducible exact rng_ld _ _ _ | with_reducible exact rng_yand _ _ | with_reducible exact rng_yor _ _ | with_reducible exact rng_zcmp _ _ | with_reducible exact yand7 _ | with_reducible exact rng_toInt _ | with_reducible exact yarr23 (by omega) | with_reducible exact yarr57 (by omega) | with_reducible exact Or.inl rfl | with_reducible exact Or.inr rfl) (by first | omega | assumption | with_reducible exact rng_ld _ _ _ | with_reducible exact rng_yand _ _ | with_reducible exact rng_yor _ _ | with_reducible exact rng_zcmp _ _ | with_reducible exact yand7 _ | with_reducible exact rng_toInt _ | with_reducible exact yarr23 (by omega) | with_reducible exact yarr57 (by omega) | with_reducible exact Or.inl rfl | with_reducible exact Or.inr rfl) (by omega)
theorem yor01 {x : Int} (h : x = 0 ∨ x = 1) : yor x 0 = x ∧ yor x 1 = 1 := by
  rcases h with rfl | rfl <;> decide
theorem c12_isEmpty {d : Nat} {Q : Int → yM → Prop} {M : yM} {x1 : Int}  (hmn : 1 ≤ ld M 92 11 ∧ ld M 92 11 ≤ 8) (h1 : 0 ≤ x1 ∧ x1 + 64 ≤ 2048) (k : ∀ (v : Int), (v = 0 ∨ v = 1) → (v = 0 → ∀ i j, 0 ≤ i → i < ld M 92 11 → 0 ≤ j → j < ld M 92 11 → cel M x1 i j ≠ 0) → Q v M) : XCi d 147 [.inr (.inr 92), .inl x1] M Q := by
  refine eX12_isEmpty ?_
  have go : ∀ N : Nat, (∀ (x2 : Int) (x3 : Int) (wx4 : Option yV), (0 ≤ x3 ∧ x3 ≤ 8) → (x3 ≤ ld M 92 11) → (x2 = 0 ∨ x2 = 1) → (x2 = 0 → ∀ i j, 0 ≤ i → i < x3 → 0 ≤ j → j < ld M 92 11 → cel M x1 i j ≠ 0) → ((8 - x3) * 40 + 20 < (N : Int)) → XW kX12_isEmpty d (some .boolean) (wQi Q) 4 [some (.inr (.inr 92)), some (.inl x1), some (.inl x2), some (.inl x3), wx4] [] M) ∧ (∀ (x2 : Int) (x3 : Int) (x4 : Int), (0 ≤ x3 ∧ x3 < 8) → (x3 < ld M 92 11) → (x2 = 0 ∨ x2 = 1) → (0 ≤ x4 ∧ x4 ≤ 8) → (x4 ≤ ld M 92 11) → (x2 = 0 → ∀ i j, 0 ≤ i → 0 ≤ j → (i < x3 ∧ j < ld M 92 11 ∨ i = x3 ∧ j < x4) → cel M x1 i j ≠ 0) → ((8 - x3) * 40 + 8 - x4 < (N : Int)) → XW kX12_isEmpty d (some .boolean) (wQi Q) 15 [some (.inr (.inr 92)), some (.inl x1), some (.inl x2), some (.inl x3), some (.inl x4)] [] M) := by
    intro N
    induction N with
    | zero => refine ⟨?_, ?_⟩ <;> (intros; exfalso; omega)
    | succ N ih =>
      obtain ⟨ih0, ih1⟩ := ih
      refine ⟨?_, ?_⟩
      · skip
        skip
        intro x2 x3 wx4 i0 i1 i2 i3 hm
        refine uX12_isEmpty_4 (by first | omega | assumption | with_reducible exact rng_ld _ _ _ | with_reducible exact rng_yand _ _ | with_reducible exact rng_yor _ _ | with_reducible exact rng_zcmp _ _ | with_reducible exact yand7 _ | with_reducible exact rng_toInt _ | with_reducible exact yarr23 (by omega) | with_reducible exact yarr57 (by omega) | with_reducible exact Or.inl rfl | with_reducible exact Or.inr rfl) (fun hc => ?_) (fun hc => ?_)
        · skip
          refine uX12_isEmpty_61 (by first | omega | assumption | with_reducible exact rng_ld _ _ _ | with_reducible exact rng_yand _ _ | with_reducible exact rng_yor _ _ | with_reducible exact rng_zcmp _ _ | with_reducible exact yand7 _ | with_reducible exact rng_toInt _ | with_reducible exact yarr23 (by omega) | with_reducible exact yarr57 (by omega) | with_reducible exact Or.inl rfl | with_reducible exact Or.inr rfl) ?_
          exact k _ (by first | omega | assumption | with_reducible exact rng_ld _ _ _ | with_reducible exact rng_yand _ _ | with_reducible exact rng_yor _ _ | with_reducible exact rng_zcmp _ _ | with_reducible exact yand7 _ | with_reducible exact rng_toInt _ | with_reducible exact yarr23 (by omega) | with_reducible exact yarr57 (by omega) | with_reducible exact Or.inl rfl | with_reducible exact Or.inr rfl) (fun e i j h1 h2 h3 h4 => i3 e i j h1 (by omega) h3 h4)
        · skip
          refine uX12_isEmpty_12 ?_
          exact ih1 _ _ _  (by first | omega | assumption | with_reducible exact rng_ld _ _ _ | with_reducible exact rng_yand _ _ | with_reducible exact rng_yor _ _ | with_reducible exact rng_zcmp _ _ | with_reducible exact yand7 _ | with_reducible exact rng_toInt _ | with_reducible exact yarr23 (by omega) | with_reducible exact yarr57 (by omega) | with_reducible exact Or.inl rfl | with_reducible exact Or.inr rfl) (by first | omega | assumption | with_reducible exact rng_ld _ _ _ | with_reducible exact rng_yand _ _ | with_reducible exact rng_yor _ _ | with_reducible exact rng_zcmp _ _ | with_reducible exact yand7 _ | with_reducible exact rng_toInt _ | with_reducible exact yarr23 (by omega) | with_reducible exact yarr57 (by omega) | with_reducible exact Or.inl rfl | with_reducible exact Or.inr rfl) (by first | omega | assumption | with_reducible exact rng_ld _ _ _ | with_reducible exact rng_yand _ _ | with_reducible exact rng_yor _ _ | with_reducible exact rng_zcmp _ _ | with_reducible exact yand7 _ | with_reducible exact rng_toInt _ | with_reducible exact yarr23 (by omega) | with_reducible exact yarr57 (by omega) | with_reducible exact Or.inl rfl | with_reducible exact Or.inr rfl) (by first | omega | assumption | with_reducible exact rng_ld _ _ _ | with_reducible exact rng_yand _ _ | with_reducible exact rng_yor _ _ | with_reducible exact rng_zcmp _ _ | with_reducible exact yand7 _ | with_reducible exact rng_toInt _ | with_reducible exact yarr23 (by omega) | with_reducible exact yarr57 (by omega) | with_reducible exact Or.inl rfl | with_reducible exact Or.inr rfl) (by first | omega | assumption | with_reducible exact rng_ld _ _ _ | with_reducible exact rng_yand _ _ | with_reducible exact rng_yor _ _ | with_reducible exact rng_zcmp _ _ | with_reducible exact yand7 _ | with_reducible exact rng_toInt _ | with_reducible exact yarr23 (by omega) | with_reducible exact yarr57 (by omega) | with_reducible exact Or.inl rfl | with_reducible exact Or.inr rfl) (by first | exact (fun e i j h1 h2 q => i3 e i j h1 (by omega) h2 (by omega)) | exact (fun e => absurd e (by omega)) | exact (fun e i j h1 h2 q => by
                      rcases (by omega : (i < x3 ∧ j < ld M 92 11 ∨ i = x3 ∧ j < x4) ∨ (i = x3 ∧ j = x4)) with q | q
                      · exact i5 (by omega) i j h1 h2 q
                      · rw [q.1, q.2]; exact hc)) (by omega)
      · skip
        skip
        intro x2 x3 x4 i0 i1 i2 i3 i4 i5 hm
        refine uX12_isEmpty_15 (by first | omega | assumption | with_reducible exact rng_ld _ _ _ | with_reducible exact rng_yand _ _ | with_reducible exact rng_yor _ _ | with_reducible exact rng_zcmp _ _ | with_reducible exact yand7 _ | with_reducible exact rng_toInt _ | with_reducible exact yarr23 (by omega) | with_reducible exact yarr57 (by omega) | with_reducible exact Or.inl rfl | with_reducible exact Or.inr rfl) (fun hc => ?_) (fun hc => ?_)
        · skip
          refine uX12_isEmpty_55 ?_
          exact ih0 _ _ _  (by first | omega | assumption | with_reducible exact rng_ld _ _ _ | with_reducible exact rng_yand _ _ | with_reducible exact rng_yor _ _ | with_reducible exact rng_zcmp _ _ | with_reducible exact yand7 _ | with_reducible exact rng_toInt _ | with_reducible exact yarr23 (by omega) | with_reducible exact yarr57 (by omega) | with_reducible exact Or.inl rfl | with_reducible exact Or.inr rfl) (by first | omega | assumption | with_reducible exact rng_ld _ _ _ | with_reducible exact rng_yand _ _ | with_reducible exact rng_yor _ _ | with_reducible exact rng_zcmp _ _ | with_reducible exact yand7 _ | with_reducible exact rng_toInt _ | with_reducible exact yarr23 (by omega) | with_reducible exact yarr57 (by omega) | with_reducible exact Or.inl rfl | with_reducible exact Or.inr rfl) (by first | omega | assumption | with_reducible exact rng_ld _ _ _ | with_reducible exact rng_yand _ _ | with_reducible exact rng_yor _ _ | with_reducible exact rng_zcmp _ _ | with_reducible exact yand7 _ | with_reducible exact rng_toInt _ | with_reducible exact yarr23 (by omega) | with_reducible exact yarr57 (by omega) | with_reducible exact Or.inl rfl | with_reducible exact Or.inr rfl) (by first | exact (fun e i j h1 h2 h3 h4 => i5 e i j h1 h3 (by omega)) | exact (fun _ i j h1 h2 => absurd h2 (by omega))) (by omega)
        · skip
          have hy := yor01 i2
          refine uX12_isEmpty_24 (by first | omega | assumption | with_reducible exact rng_ld _ _ _ | with_reducible exact rng_yand _ _ | with_reducible exact rng_yor _ _ | with_reducible exact rng_zcmp _ _ | with_reducible exact yand7 _ | with_reducible exact rng_toInt _ | with_reducible exact yarr23 (by omega) | with_reducible exact yarr57 (by omega) | with_reducible exact Or.inl rfl | with_reducible exact Or.inr rfl) (fun hc => ?_) (fun hc => ?_)
          · skip
            refine uX12_isEmpty_46 ?_
            refine uX12_isEmpty_47 ?_
            exact ih1 _ _ _  (by first | omega | assumption | with_reducible exact rng_ld _ _ _ | with_reducible exact rng_yand _ _ | with_reducible exact rng_yor _ _ | with_reducible exact rng_zcmp _ _ | with_reducible exact yand7 _ | with_reducible exact rng_toInt _ | with_reducible exact yarr23 (by omega) | with_reducible exact yarr57 (by omega) | with_reducible exact Or.inl rfl | with_reducible exact Or.inr rfl) (by first | omega | assumption | with_reducible exact rng_ld _ _ _ | with_reducible exact rng_yand _ _ | with_reducible exact rng_yor _ _ | with_reducible exact rng_zcmp _ _ | with_reducible exact yand7 _ | with_reducible exact rng_toInt _ | with_reducible exact yarr23 (by omega) | with_reducible exact yarr57 (by omega) | with_reducible exact Or.inl rfl | with_reducible exact Or.inr rfl) (by first | omega | assumption | with_reducible exact rng_ld _ _ _ | with_reducible exact rng_yand _ _ | with_reducible exact rng_yor _ _ | with_reducible exact rng_zcmp _ _ | with_reducible exact yand7 _ | with_reducible exact rng_toInt _ | with_reducible exact yarr23 (by omega) | with_reducible exact yarr57 (by omega) | with_reducible exact Or.inl rfl | with_reducible exact Or.inr rfl) (by first | omega | assumption | with_reducible exact rng_ld _ _ _ | with_reducible exact rng_yand _ _ | with_reducible exact rng_yor _ _ | with_reducible exact rng_zcmp _ _ | with_reducible exact yand7 _ | with_reducible exact rng_toInt _ | with_reducible exact yarr23 (by omega) | with_reducible exact yarr57 (by omega) | with_reducible exact Or.inl rfl | with_reducible exact Or.inr rfl) (by first | omega | assumption | with_reducible exact rng_ld _ _ _ | with_reducible exact rng_yand _ _ | with_reducible exact rng_yor _ _ | with_reducible exact rng_zcmp _ _ | with_reducible exact yand7 _ | with_reducible exact rng_toInt _ | with_reducible exact yarr23 (by omega) | with_reducible exact yarr57 (by omega) | with_reducible exact Or.inl rfl | with_reducible exact Or.inr rfl) (by first | exact (fun e i j h1 h2 q => i3 e i j h1 (by omega) h2 (by omega)) | exact (fun e => absurd e (by omega)) | exact (fun e i j h1 h2 q => by
                        rcases (by omega : (i < x3 ∧ j < ld M 92 11 ∨ i = x3 ∧ j < x4) ∨ (i = x3 ∧ j = x4)) with q | q
                        · exact i5 (by omega) i j h1 h2 q
                        · rw [q.1, q.2]; exact hc)) (by omega)
          · skip
            refine uX12_isEmpty_42 ?_
            refine uX12_isEmpty_47 ?_
            exact ih1 _ _ _  (by first | omega | assumption | with_reducible exact rng_ld _ _ _ | with_reducible exact rng_yand _ _ | with_reducible exact rng_yor _ _ | with_reducible exact rng_zcmp _ _ | with_reducible exact yand7 _ | with_reducible exact rng_toInt _ | with_reducible exact yarr23 (by omega) | with_reducible exact yarr57 (by omega) | with_reducible exact Or.inl rfl | with_reducible exact Or.inr rfl) (by first | omega | assumption | with_reducible exact rng_ld _ _ _ | with_reducible exact rng_yand _ _ | with_reducible exact rng_yor _ _ | with_reducible exact rng_zcmp _ _ | with_reducible exact yand7 _ | with_reducible exact rng_toInt _ | with_reducible exact yarr23 (by omega) | with_reducible exact yarr57 (by omega) | with_reducible exact Or.inl rfl | with_reducible exact Or.inr rfl) (by first | omega | assumption | with_reducible exact rng_ld _ _ _ | with_reducible exact rng_yand _ _ | with_reducible exact rng_yor _ _ | with_reducible exact rng_zcmp _ _ | with_reducible exact yand7 _ | with_reducible exact rng_toInt _ | with_reducible exact yarr23 (by omega) | with_reducible exact yarr57 (by omega) | with_reducible exact Or.inl rfl | with_reducible exact Or.inr rfl) (by first | omega | assumption | with_reducible exact rng_ld _ _ _ | with_reducible exact rng_yand _ _ | with_reducible exact rng_yor _ _ | with_reducible exact rng_zcmp _ _ | with_reducible exact yand7 _ | with_reducible exact rng_toInt _ | with_reducible exact yarr23 (by omega) | with_reducible exact yarr57 (by omega) | with_reducible exact Or.inl rfl | with_reducible exact Or.inr rfl) (by first | omega | assumption | with_reducible exact rng_ld _ _ _ | with_reducible exact rng_yand _ _ | with_reducible exact rng_yor _ _ | with_reducible exact rng_zcmp _ _ | with_reducible exact yand7 _ | with_reducible exact rng_toInt _ | with_reducible exact yarr23 (by omega) | with_reducible exact yarr57 (by omega) | with_reducible exact Or.inl rfl | with_reducible exact Or.inr rfl) (by first | exact (fun e i j h1 h2 q => i3 e i j h1 (by omega) h2 (by omega)) | exact (fun e => absurd e (by omega)) | exact (fun e i j h1 h2 q => by
                        rcases (by omega : (i < x3 ∧ j < ld M 92 11 ∨ i = x3 ∧ j < x4) ∨ (i = x3 ∧ j = x4)) with q | q
                        · exact i5 (by omega) i j h1 h2 q
                        · rw [q.1, q.2]; exact hc)) (by omega)
  refine uX12_isEmpty_0 ?_
  exact (go 1000000).1 _ _ _  (by first | omega | assumption | with_reducible exact rng_ld _ _ _ | with_reducible exact rng_yand _ _ | with_reducible exact rng_yor _ _ | with_reducible exact rng_zcmp _ _ | with_reducible exact yand7 _ | with_reducible exact rng_toInt _ | with_reducible exact yarr23 (by omega) | with_reducible exact yarr57 (by omega) | with_reducible exact Or.inl rfl | with_reducible exact Or.inr rfl) (by first | omega | assumption | with_reducible exact rng_ld _ _ _ | with_reducible exact rng_yand _ _ | with_reducible exact rng_yor _ _ | with_reducible exact rng_zcmp _ _ | with_reducible exact yand7 _ | with_reducible exact rng_toInt _ | with_reducible exact yarr23 (by omega) | with_reducible exact yarr57 (by omega) | with_reducible exact Or.inl rfl | with_reducible exact Or.inr rfl) (by first | omega | assumption | with_reducible exact rng_ld _ _ _ | with_reducible exact rng_yand _ _ | with_reducible exact rng_yor _ _ | with_reducible exact rng_zcmp _ _ | with_reducible exact yand7 _ | with_reducible exact rng_toInt _ | with_reducible exact yarr23 (by omega) | with_reducible exact yarr57 (by omega) | with_reducible exact Or.inl rfl | with_reducible exact Or.inr rfl) (by first | exact (fun e i j h1 h2 h3 h4 => i5 e i j h1 h3 (by omega)) | exact (fun _ i j h1 h2 => absurd h2 (by omega))) (by omega)
