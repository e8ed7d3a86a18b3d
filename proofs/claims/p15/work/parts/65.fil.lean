/-! FILLINGS, COUNTED -/
noncomputable def b01 (p : Prop) : Int := @ite Int p (Classical.propDecidable p) 1 0
theorem b01_t {p : Prop} (h : p) : b01 p = 1 := by
  unfold b01
  exact @if_pos p (Classical.propDecidable p) h Int 1 0
theorem b01_f {p : Prop} (h : ¬ p) : b01 p = 0 := by
  unfold b01
  exact @if_neg p (Classical.propDecidable p) h Int 1 0
theorem b01_b (p : Prop) : 0 ≤ b01 p ∧ b01 p ≤ 1 := by
  by_cases h : p
  · rw [b01_t h]; decide
  · rw [b01_f h]; decide
/-- how many of a list -/
noncomputable def ct {α : Type} (p : α → Prop) : List α → Int
  | [] => 0
  | x :: l => b01 (p x) + ct p l
section
variable {α : Type} {p q r : α → Prop}
theorem ct_nn : ∀ l : List α, 0 ≤ ct p l
  | [] => Int.le_refl 0
  | x :: l => by
    have := ct_nn l
    have := b01_b (p x)
    simp only [ct]
    omega
theorem ct_cg : ∀ l : List α, (∀ x ∈ l, p x ↔ q x) → ct p l = ct q l
  | [], _ => rfl
  | x :: l, h => by
    have ih := ct_cg l (fun y hy => h y (List.mem_cons_of_mem _ hy))
    have hx := h x List.mem_cons_self
    simp only [ct]
    rw [ih]
    by_cases w : p x
    · rw [b01_t w, b01_t (hx.mp w)]
    · rw [b01_f w, b01_f (fun z => w (hx.mpr z))]
theorem ct_app : ∀ l m : List α, ct p (l ++ m) = ct p l + ct p m
  | [], m => by simp only [List.nil_append, ct]; omega
  | x :: l, m => by
    have ih := ct_app l m
    simp only [List.cons_append, ct]
    rw [ih]
    omega
theorem ct_add : ∀ l : List α, (∀ x ∈ l, (p x ↔ q x ∨ r x) ∧ ¬ (q x ∧ r x)) → ct p l = ct q l + ct r l
  | [], _ => rfl
  | x :: l, h => by
    have ih := ct_add l (fun y hy => h y (List.mem_cons_of_mem _ hy))
    have hx := h x List.mem_cons_self
    simp only [ct]
    rw [ih]
    by_cases w : q x
    · rw [b01_t (hx.1.mpr (Or.inl w)), b01_t w, b01_f (fun z => hx.2 ⟨w, z⟩)]
      omega
    · by_cases v : r x
      · rw [b01_t (hx.1.mpr (Or.inr v)), b01_f w, b01_t v]
        omega
      · rw [b01_f (fun z => (hx.1.mp z).elim w v), b01_f w, b01_f v]
        omega
theorem ct_0 : ∀ l : List α, (∀ x ∈ l, ¬ p x) → ct p l = 0
  | [], _ => rfl
  | x :: l, h => by
    have ih := ct_0 l (fun y hy => h y (List.mem_cons_of_mem _ hy))
    simp only [ct]
    rw [b01_f (h x List.mem_cons_self), ih]
    rfl
theorem ct_le : ∀ l : List α, (∀ x ∈ l, p x → q x) → ct p l ≤ ct q l
  | [], _ => Int.le_refl 0
  | x :: l, h => by
    have ih := ct_le l (fun y hy => h y (List.mem_cons_of_mem _ hy))
    have hx := h x List.mem_cons_self
    simp only [ct]
    by_cases w : p x
    · rw [b01_t w, b01_t (hx w)]; omega
    · have := b01_b (q x)
      rw [b01_f w]; omega
theorem ct_pos : ∀ l : List α, 0 < ct p l ↔ ∃ x ∈ l, p x
  | [] => ⟨fun h => absurd h (by simp only [ct]; omega), fun ⟨x, h, _⟩ => absurd h List.not_mem_nil⟩
  | x :: l => by
    have ih := ct_pos l
    have nn := ct_nn (p := p) l
    simp only [ct]
    constructor
    · intro h
      by_cases w : p x
      · exact ⟨x, List.mem_cons_self, w⟩
      · rw [b01_f w] at h
        obtain ⟨y, h1, h2⟩ := ih.mp (by omega)
        exact ⟨y, List.mem_cons_of_mem _ h1, h2⟩
    · rintro ⟨y, h1, h2⟩
      rcases List.mem_cons.mp h1 with rfl | h1
      · rw [b01_t h2]; omega
      · have := ih.mpr ⟨y, h1, h2⟩
        have := b01_b (p x)
        omega
end
/-- all choices of kinds for pairs -/
def updK (κ : Int → Int) (p : Int × Int) (a : Nat) : Int → Int := fun x => if x = 8 * p.1 + p.2 then (a : Int) else κ x
def uv (k : Nat) : List (Int × Int) → List (Int → Int)
  | [] => [fun _ => 0]
  | p :: r => (uv k r).flatMap fun κ => (List.range k).map (updK κ p)
theorem uv_v {k : Nat} : ∀ (P : List (Int × Int)) (κ : Int → Int), κ ∈ uv k P → ∀ p ∈ P, 0 ≤ κ (8 * p.1 + p.2) ∧ κ (8 * p.1 + p.2) < k
  | [], _, _ => fun _ h => absurd h List.not_mem_nil
  | p :: r, κ, h => by
    obtain ⟨κ', h1, h2⟩ := List.mem_flatMap.mp h
    obtain ⟨a, h3, rfl⟩ := List.mem_map.mp h2
    have ha := List.mem_range.mp h3
    intro q hq
    unfold updK
    split
    · omega
    · next w =>
      rcases List.mem_cons.mp hq with rfl | hq
      · exact absurd rfl w
      · exact uv_v r κ' h1 q hq
def pd (S : Int × Int → Int) (k : Nat) : List (Int × Int) → Int
  | [] => 1
  | p :: r => pcb (S p) k * pd S k r
theorem ct_in {S : Int × Int → Int} {p : Int × Int} {r : List (Int × Int)} {κ : Int → Int} (hd : ∀ q ∈ r, 8 * q.1 + q.2 ≠ 8 * p.1 + p.2) : ∀ k : Nat, ct (fun κ => ∀ q ∈ p :: r, bt (S q) (κ (8 * q.1 + q.2)).toNat = true) ((List.range k).map (updK κ p)) = b01 (∀ q ∈ r, bt (S q) (κ (8 * q.1 + q.2)).toNat = true) * pcb (S p) k
  | 0 => by simp only [List.range_zero, List.map_nil, ct, pcb]; omega
  | k + 1 => by
    have ih := ct_in (S := S) (κ := κ) hd k
    have e : (∀ q ∈ p :: r, bt (S q) (updK κ p k (8 * q.1 + q.2)).toNat = true) ↔ bt (S p) k = true ∧ ∀ q ∈ r, bt (S q) (κ (8 * q.1 + q.2)).toNat = true := by
      have u1 : updK κ p k (8 * p.1 + p.2) = (k : Int) := by unfold updK; rw [if_pos rfl]
      have u2 : ∀ q ∈ r, updK κ p k (8 * q.1 + q.2) = κ (8 * q.1 + q.2) := fun q hq => by unfold updK; rw [if_neg (hd q hq)]
      constructor
      · intro h
        refine ⟨?_, fun q hq => ?_⟩
        · have w := h p List.mem_cons_self
          rw [u1, Int.toNat_natCast] at w
          exact w
        · have w := h q (List.mem_cons_of_mem _ hq)
          rw [u2 q hq] at w
          exact w
      · rintro ⟨h1, h2⟩ q hq
        rcases List.mem_cons.mp hq with rfl | hq
        · rw [u1, Int.toNat_natCast]; exact h1
        · rw [u2 q hq]; exact h2 q hq
    rw [List.range_succ, List.map_append, ct_app, ih]
    simp only [List.map_cons, List.map_nil, ct, pcb]
    by_cases w : ∀ q ∈ r, bt (S q) (κ (8 * q.1 + q.2)).toNat = true
    · rw [b01_t w]
      by_cases v : bt (S p) k = true
      · rw [b01_t (e.mpr ⟨v, w⟩), if_pos v]; omega
      · rw [b01_f (fun z => v (e.mp z).1), if_neg v]; omega
    · rw [b01_f w, b01_f (fun z => w (e.mp z).2)]
      omega
theorem ct_uv {S : Int × Int → Int} {k : Nat} : ∀ P : List (Int × Int), P.Pairwise (fun p q => 8 * p.1 + p.2 ≠ 8 * q.1 + q.2) → ct (fun κ => ∀ q ∈ P, bt (S q) (κ (8 * q.1 + q.2)).toNat = true) (uv k P) = pd S k P
  | [], _ => by
    simp only [uv, ct, pd]
    rw [b01_t (fun q h => absurd h List.not_mem_nil)]
    rfl
  | p :: r, hd => by
    have h2 := List.pairwise_cons.mp hd
    have ih := ct_uv (S := S) (k := k) r h2.2
    have key : ∀ L : List (Int → Int), ct (fun κ => ∀ q ∈ p :: r, bt (S q) (κ (8 * q.1 + q.2)).toNat = true) (L.flatMap fun κ => (List.range k).map (updK κ p)) = pcb (S p) k * ct (fun κ => ∀ q ∈ r, bt (S q) (κ (8 * q.1 + q.2)).toNat = true) L := by
      intro L
      induction L with
      | nil => simp only [List.flatMap_nil, ct]; rw [Int.mul_zero]
      | cons x L ihL =>
        rw [List.flatMap_cons, ct_app, ihL, ct_in (fun q hq => (h2.1 q hq).symm)]
        simp only [ct]
        rw [Int.mul_add, Int.mul_comm (pcb (S p) k) (b01 _)]
    show ct _ ((uv k r).flatMap fun κ => (List.range k).map (updK κ p)) = pcb (S p) k * pd S k r
    rw [key, ih]
/-- the pairs of n points, the lower point first -/
def gC (i : Int) : Nat → Int → List (Int × Int)
  | 0, _ => []
  | m + 1, c => (i, c) :: gC i m (c + 1)
def gI (n : Int) : Nat → Int → List (Int × Int)
  | 0, _ => []
  | m + 1, i => gC i (n - (i + 1)).toNat (i + 1) ++ gI n m (i + 1)
def gIs (n i : Int) : List (Int × Int) := gI n (n - i).toNat i
def gCs (n i c : Int) : List (Int × Int) := gC i (n - c).toNat c ++ gIs n (i + 1)
def prs (n : Int) : List (Int × Int) := gIs n 0
theorem gIs_s {n i : Int} (h : i < n) : gIs n i = gCs n i (i + 1) := by
  unfold gIs gCs
  rw [show (n - i).toNat = (n - (i + 1)).toNat + 1 by omega]
  rfl
theorem gIs_e {n i : Int} (h : n ≤ i) : gIs n i = [] := by
  unfold gIs
  rw [show (n - i).toNat = 0 by omega]
  rfl
theorem gCs_s {n i c : Int} (h : c < n) : gCs n i c = (i, c) :: gCs n i (c + 1) := by
  unfold gCs
  rw [show (n - c).toNat = (n - (c + 1)).toNat + 1 by omega]
  rfl
theorem gCs_e {n i c : Int} (h : n ≤ c) : gCs n i c = gIs n (i + 1) := by
  unfold gCs
  rw [show (n - c).toNat = 0 by omega]
  rfl
theorem prs_inB : ((List.range 9).all fun n => (List.range n).all fun c => (List.range c).all fun i => decide (((i : Int), (c : Int)) ∈ prs (n : Int))) = true := by decide +kernel
theorem prs_inD {n c i : Nat} (hn : n < 9) (hc : c < n) (hi : i < c) : ((i : Int), (c : Int)) ∈ prs (n : Int) := by
  have h := List.all_eq_true.mp prs_inB n (List.mem_range.mpr hn)
  have h1 := List.all_eq_true.mp h c (List.mem_range.mpr hc)
  exact of_decide_eq_true (List.all_eq_true.mp h1 i (List.mem_range.mpr hi))
theorem prs_ofB : ((List.range 9).all fun n => (prs (n : Int)).all fun p => decide (0 ≤ p.1 ∧ p.1 < p.2 ∧ p.2 < (n : Int))) = true := by decide +kernel
theorem prs_ofD {n : Nat} (hn : n < 9) {p : Int × Int} (hp : p ∈ prs (n : Int)) : 0 ≤ p.1 ∧ p.1 < p.2 ∧ p.2 < (n : Int) :=
  of_decide_eq_true (List.all_eq_true.mp (List.all_eq_true.mp prs_ofB n (List.mem_range.mpr hn)) p hp)
theorem prs_pwB : ((List.range 9).all fun n => decide ((prs (n : Int)).map fun p => 8 * p.1 + p.2).Nodup) = true := by decide +kernel
theorem prs_pwD {n : Nat} (hn : n < 9) : (prs (n : Int)).Pairwise (fun p q => 8 * p.1 + p.2 ≠ 8 * q.1 + q.2) :=
  List.pairwise_map.mp (of_decide_eq_true (List.all_eq_true.mp prs_pwB n (List.mem_range.mpr hn)))
theorem prs_neg {n : Int} (h : n ≤ 0) : prs n = [] := gIs_e h
theorem prs_of {n : Int} (hn : n ≤ 8) {p : Int × Int} (h : p ∈ prs n) : 0 ≤ p.1 ∧ p.1 < p.2 ∧ p.2 < n ∧ p.2 < 8 := by
  by_cases q : n ≤ 0
  · rw [prs_neg q] at h
    exact absurd h List.not_mem_nil
  · obtain ⟨m, rfl⟩ := Int.eq_ofNat_of_zero_le (show 0 ≤ n by omega)
    have := prs_ofD (by omega) h
    omega
theorem prs_in {n i c : Int} (hn : n ≤ 8) (hi : 0 ≤ i ∧ i < c ∧ c < n) : (i, c) ∈ prs n := by
  obtain ⟨m, rfl⟩ := Int.eq_ofNat_of_zero_le (show 0 ≤ n by omega)
  have w := prs_inD (n := m) (c := c.toNat) (i := i.toNat) (by omega) (by omega) (by omega)
  rw [show ((i.toNat : Nat) : Int) = i by omega, show ((c.toNat : Nat) : Int) = c by omega] at w
  exact w
theorem prs_pw {n : Int} (hn : n ≤ 8) : (prs n).Pairwise (fun p q => 8 * p.1 + p.2 ≠ 8 * q.1 + q.2) := by
  by_cases q : n ≤ 0
  · rw [prs_neg q]
    exact List.Pairwise.nil
  · obtain ⟨m, rfl⟩ := Int.eq_ofNat_of_zero_le (show 0 ≤ n by omega)
    exact prs_pwD (by omega)
theorem pcb_k {k x : Int} (hk : 1 ≤ k ∧ k ≤ 8) (h : Se k x) : ∀ m : Nat, k.toNat ≤ m → pcb x m = pcb x k.toNat
  | 0, q => absurd q (by omega)
  | m + 1, q => by
    by_cases e : k.toNat = m + 1
    · rw [e]
    · simp only [pcb]
      rw [if_neg (fun w => by have := bt_al (by omega) h w; omega), pcb_k hk h m (by omega)]
      omega
/-- a choice as a net -/
def nK (f κ : Int → Int) : Int → Int := fun x => if x / 8 < x % 8 then yshl 1 (κ x) else if x % 8 < x / 8 then yshl 1 (f (κ (8 * (x % 8) + x / 8))) else 1
theorem nK_lt {f κ : Int → Int} {i c : Int} (h : 0 ≤ i ∧ i < c ∧ c < 8) : nK f κ (8 * i + c) = yshl 1 (κ (8 * i + c)) := by
  unfold nK
  rw [if_pos (by omega)]
theorem nK_gt {f κ : Int → Int} {i c : Int} (h : 0 ≤ i ∧ i < c ∧ c < 8) : nK f κ (8 * c + i) = yshl 1 (f (κ (8 * i + c))) := by
  unfold nK
  rw [if_neg (by omega), if_pos (by omega), show 8 * ((8 * c + i) % 8) + (8 * c + i) / 8 = 8 * i + c by omega]
def KV (k n : Int) (κ : Int → Int) : Prop := ∀ i c : Int, 0 ≤ i → i < c → c < n → 0 ≤ κ (8 * i + c) ∧ κ (8 * i + c) < k
theorem tP_bit {f : Int → Int} {k a : Int} (hk : 1 ≤ k ∧ k ≤ 8) (hf : IV f k) (ha : 0 ≤ a ∧ a < k) : tP f k (yshl 1 a) = yshl 1 (f a) := by
  have fa := (hf a ha.1 ha.2).1
  refine bt_ext (tOf_rng _ _ _) (rng_yshl _ _) (fun t _ => ?_)
  rw [Bool.eq_iff_iff, tP_bt hk hf (se_bit hk ha).1 t, bt_bit (by omega), decide_eq_true_eq]
  constructor
  · rintro ⟨i, i1, h2, h3⟩
    rw [bt_bit (by omega), decide_eq_true_eq] at h2
    have e : i = a := by omega
    subst e
    omega
  · intro e
    exact ⟨a, ha, by rw [bt_bit (by omega), decide_eq_true_eq], by omega⟩
theorem nK_sn {f κ : Int → Int} {k n : Int} (hk : 1 ≤ k ∧ k ≤ 8) (hf : IV f k) (hn : n ≤ 8) (hv : KV k n κ) : SN f k n (nK f κ) := fun i c i1 i2 c1 c2 ic => by
  rcases Int.lt_or_gt_of_ne ic with w | w
  · have v := hv i c i1 w c2
    rw [nK_lt ⟨i1, w, by omega⟩, nK_gt ⟨i1, w, by omega⟩, tP_bit hk hf v]
    exact ⟨(se_bit hk v).1, rfl⟩
  · have v := hv c i c1 w i2
    have fv := hf _ v.1 v.2
    rw [nK_gt ⟨c1, w, by omega⟩, nK_lt ⟨c1, w, by omega⟩, tP_bit hk hf fv.1, fv.2]
    exact ⟨(se_bit hk fv.1).1, rfl⟩
theorem nK_ne {f κ : Int → Int} {k n : Int} (hk : 1 ≤ k ∧ k ≤ 8) (hf : IV f k) (hn : n ≤ 8) (hv : KV k n κ) : Ne n (nK f κ) := fun i c i1 i2 c1 c2 ic => by
  rcases Int.lt_or_gt_of_ne ic with w | w
  · rw [nK_lt ⟨i1, w, by omega⟩]
    exact (se_bit hk (hv i c i1 w c2)).2
  · rw [nK_gt ⟨c1, w, by omega⟩]
    have v := hv c i c1 w i2
    exact (se_bit hk (hf _ v.1 v.2).1).2
/-- a filling -/
def Fl (T f : Int → Int) (k n : Int) (N κ : Int → Int) : Prop := Sb n (nK f κ) N ∧ Cl T k n (nK f κ)
noncomputable def cn' (T f : Int → Int) (k n : Int) (N : Int → Int) : Int := ct (Fl T f k n N) (uv k.toNat (prs n))
theorem uv_kv {k n : Int} (hk : 1 ≤ k) (hn : n ≤ 8) {κ : Int → Int} (h : κ ∈ uv k.toNat (prs n)) : KV k n κ := fun i c i1 ic c2 => by
  have w := uv_v _ _ h (i, c) (prs_in hn ⟨i1, ic, c2⟩)
  have w1 : 0 ≤ κ (8 * i + c) ∧ κ (8 * i + c) < (k.toNat : Int) := w
  omega
section
variable {T f : Int → Int} {k n : Int} {X X' : Int → Int}
theorem cn_same (hT : TH T f k) (hn : n ≤ 8) (hX' : SN f k n X') (hd : Sb n X' X) (hs : ∀ Y, SN f k n Y → Cl T k n Y → Sb n Y X → Sb n Y X') : cn' T f k n X' = cn' T f k n X := ct_cg _ (fun κ h => by
  have sn := nK_sn hT.1 hT.2.1 hn (uv_kv (by have := hT.1; omega) hn h)
  exact ⟨fun q => ⟨Sb.tr hT.1 sn q.1 hd, q.2⟩, fun q => ⟨hs _ sn q.2 q.1, q.2⟩⟩)
theorem cn_no (hT : TH T f k) (hn : n ≤ 8) (h : ¬ Good T f k n X) : cn' T f k n X = 0 := ct_0 _ (fun κ hk q => by
  have v := uv_kv (by have := hT.1; omega) hn hk
  exact h ⟨nK f κ, nK_sn hT.1 hT.2.1 hn v, q.2, nK_ne hT.1 hT.2.1 hn v, q.1⟩)
theorem sub_b1 {a b : Int} (ha : 0 ≤ a ∧ a < 8) : Sub (yshl 1 a) b ↔ bt b a.toNat = true := by
  constructor
  · intro h
    refine sub_bt h ?_
    rw [bt_bit (by omega), decide_eq_true_eq]
  · intro h
    refine sub_of (rng_yshl _ _) (fun i q => ?_)
    rw [bt_bit (by omega), decide_eq_true_eq] at q
    rw [q]
    exact h
/-- a choice lies within by its upper half -/
theorem sb_up (hT : TH T f k) (hn : n ≤ 8) (hX : SN f k n X) {κ : Int → Int} (hv : KV k n κ) : Sb n (nK f κ) X ↔ ∀ q ∈ prs n, bt (X (8 * q.1 + q.2)) (κ (8 * q.1 + q.2)).toNat = true := by
  have hk := hT.1
  have sn := nK_sn hT.1 hT.2.1 hn hv
  constructor
  · intro h q hq
    have o := prs_of hn hq
    have w := h q.1 q.2 o.1 (by omega) (by omega) o.2.2.1 (by omega)
    have v := hv q.1 q.2 o.1 o.2.1 o.2.2.1
    rw [nK_lt ⟨o.1, o.2.1, o.2.2.2⟩] at w
    exact (sub_b1 (by omega)).mp w
  · intro h i c i1 i2 c1 c2 ic
    rcases Int.lt_or_gt_of_ne ic with w | w
    · have v := hv i c i1 w c2
      rw [nK_lt ⟨i1, w, by omega⟩]
      exact (sub_b1 (by omega)).mpr (h (i, c) (prs_in hn ⟨i1, w, c2⟩))
    · have v := hv c i c1 w i2
      have u : Sub (nK f κ (8 * c + i)) (X (8 * c + i)) := by
        rw [nK_lt ⟨c1, w, by omega⟩]
        exact (sub_b1 (by omega)).mpr (h (c, i) (prs_in hn ⟨c1, w, i2⟩))
      have a := sn c i c1 c2 i1 i2 (fun e => ic e.symm)
      have b := hX c i c1 c2 i1 i2 (fun e => ic e.symm)
      rw [a.2, b.2]
      exact tP_mono hk hT.2.1 a.1 b.1 u
/-- what is chosen of a pair is below a -/
noncomputable def cnU (T f : Int → Int) (k n : Int) (X : Int → Int) (i c a : Int) : Int := ct (fun κ => Fl T f k n X κ ∧ κ (8 * i + c) < a) (uv k.toNat (prs n))
theorem cnU_0 (hT : TH T f k) (hn : n ≤ 8) {i c : Int} (hi : 0 ≤ i ∧ i < c ∧ c < n) : cnU T f k n X i c 0 = 0 := ct_0 _ (fun κ h q => by
  have v := uv_kv (by have := hT.1; omega) hn h i c hi.1 hi.2.1 hi.2.2
  omega)
theorem cnU_k (hT : TH T f k) (hn : n ≤ 8) {i c a : Int} (hi : 0 ≤ i ∧ i < c ∧ c < n) (ha : k ≤ a) : cnU T f k n X i c a = cn' T f k n X := ct_cg _ (fun κ h => by
  have v := uv_kv (by have := hT.1; omega) hn h i c hi.1 hi.2.1 hi.2.2
  exact ⟨fun q => q.1, fun q => ⟨q, by omega⟩⟩)
theorem cnU_n (hT : TH T f k) (hn : n ≤ 8) (hX : SN f k n X) {i c a : Int} (hi : 0 ≤ i ∧ i < c ∧ c < n) (ha : 0 ≤ a ∧ a < k) (h : bt (X (8 * i + c)) a.toNat ≠ true) : cnU T f k n X i c (a + 1) = cnU T f k n X i c a := ct_cg _ (fun κ hk => by
  have hk8 := hT.1
  have v := uv_kv (by omega) hn hk
  have w := v i c hi.1 hi.2.1 hi.2.2
  refine ⟨fun q => ⟨q.1, ?_⟩, fun q => ⟨q.1, by omega⟩⟩
  have u := (sb_up hT hn hX v).mp q.1.1 (i, c) (prs_in hn hi)
  have u1 : bt (X (8 * i + c)) (κ (8 * i + c)).toNat = true := u
  have ne : κ (8 * i + c) ≠ a := fun e => h (by rw [← e]; exact u1)
  have lt := q.2
  omega)
theorem fl_sng (hT : TH T f k) (hn : n ≤ 8) (hX : SN f k n X) {i c a : Int} (hi : 0 ≤ i ∧ i < c ∧ c < n) (ha : 0 ≤ a ∧ a < k) (h : bt (X (8 * i + c)) a.toNat = true) {κ : Int → Int} (hv : KV k n κ) : Fl T f k n (sng f k X i c a) κ ↔ Fl T f k n X κ ∧ κ (8 * i + c) = a := by
  have hk8 := hT.1
  have w := hv i c hi.1 hi.2.1 hi.2.2
  have sng_sn' : SN f k n (sng f k X i c a) := sng_sn hX hT.1 hT.2.1 hn hi ha
  have e1 : sng f k X i c a (8 * i + c) = yshl 1 a := by
    unfold sng
    rw [up2_at (by omega) (by omega) (by omega) (by omega), if_neg (by omega), if_pos ⟨rfl, rfl⟩]
  have e2 : ∀ q ∈ prs n, q ≠ (i, c) → sng f k X i c a (8 * q.1 + q.2) = X (8 * q.1 + q.2) := fun q hq ne => by
    have o := prs_of hn hq
    unfold sng
    rw [up2_at (by omega) (by omega) (by omega) (by omega), if_neg (by omega), if_neg (fun z => ne (Prod.ext z.1 z.2))]
  unfold Fl
  rw [sb_up hT hn sng_sn' hv, sb_up hT hn hX hv]
  constructor
  · rintro ⟨h1, h2⟩
    have u : bt (sng f k X i c a (8 * i + c)) (κ (8 * i + c)).toNat = true := h1 (i, c) (prs_in hn hi)
    rw [e1, bt_bit (by omega), decide_eq_true_eq] at u
    have ea : κ (8 * i + c) = a := by omega
    refine ⟨⟨fun q hq => ?_, h2⟩, ea⟩
    by_cases z : q = (i, c)
    · rw [z]
      show bt (X (8 * i + c)) (κ (8 * i + c)).toNat = true
      rw [ea]
      exact h
    · rw [← e2 q hq z]
      exact h1 q hq
  · rintro ⟨⟨h1, h2⟩, ea⟩
    refine ⟨fun q hq => ?_, h2⟩
    by_cases z : q = (i, c)
    · rw [z]
      show bt (sng f k X i c a (8 * i + c)) (κ (8 * i + c)).toNat = true
      rw [e1, ea, bt_bit (by omega), decide_eq_true_eq]
    · rw [e2 q hq z]
      exact h1 q hq
theorem cnU_s (hT : TH T f k) (hn : n ≤ 8) (hX : SN f k n X) {i c a : Int} (hi : 0 ≤ i ∧ i < c ∧ c < n) (ha : 0 ≤ a ∧ a < k) (h : bt (X (8 * i + c)) a.toNat = true) : cnU T f k n X i c (a + 1) = cnU T f k n X i c a + cn' T f k n (sng f k X i c a) := ct_add _ (fun κ hk => by
  have hk8 := hT.1
  have v := uv_kv (by omega) hn hk
  have w := v i c hi.1 hi.2.1 hi.2.2
  have s := fl_sng hT hn hX hi ha h v
  refine ⟨⟨fun q => ?_, fun q => ?_⟩, fun q => ?_⟩
  · by_cases z : κ (8 * i + c) = a
    · exact Or.inr (s.mpr ⟨q.1, z⟩)
    · exact Or.inl ⟨q.1, by have := q.2; omega⟩
  · rcases q with q | q
    · exact ⟨q.1, by have := q.2; omega⟩
    · have := s.mp q
      exact ⟨this.1, by have := this.2; omega⟩
  · have := s.mp q.2
    have := q.1.2
    omega)
/-- where every choice within is closed, the choices count -/
theorem cn_box (hT : TH T f k) (hn : n ≤ 8) (hX : SN f k n X) (hB : ∀ κ, KV k n κ → Sb n (nK f κ) X → Cl T k n (nK f κ)) : cn' T f k n X = pd (fun q => X (8 * q.1 + q.2)) k.toNat (prs n) := by
  rw [← ct_uv (prs n) (prs_pw hn)]
  refine ct_cg _ (fun κ hk => ?_)
  have v := uv_kv (by have := hT.1; omega) hn hk
  have s := sb_up hT hn hX v
  exact ⟨fun q => s.mp q.1, fun q => ⟨s.mpr q, hB κ v (s.mpr q)⟩⟩
/-- more than one kind -/
def Op (x : Int) : Prop := ∀ a : Int, 0 ≤ a → a < 8 → x ≠ yshl 1 a
/-- no triangle has two such pairs -/
def OneOp (n : Int) (X : Int → Int) : Prop := ∀ i j c : Int, 0 ≤ i → i < n → 0 ≤ j → j < n → 0 ≤ c → c < n → i ≠ j → j ≠ c → i ≠ c → ¬ Op (X (8 * i + j)) ∨ ¬ Op (X (8 * j + c))
theorem op_eq (hT : TH T f k) (hn : n ≤ 8) (hX : SN f k n X) {κ : Int → Int} (hv : KV k n κ) (hs : Sb n (nK f κ) X) {i c : Int} (hi : 0 ≤ i ∧ i < n) (hc : 0 ≤ c ∧ c < n) (ic : i ≠ c) (ho : ¬ Op (X (8 * i + c))) : nK f κ (8 * i + c) = X (8 * i + c) := by
  have hk8 := hT.1
  obtain ⟨a, a1, a2, e⟩ : ∃ a : Int, 0 ≤ a ∧ a < 8 ∧ X (8 * i + c) = yshl 1 a := by
    apply Classical.byContradiction
    intro q
    exact ho (fun a a1 a2 e => q ⟨a, a1, a2, e⟩)
  have w := hs i c hi.1 hi.2 hc.1 hc.2 ic
  have one : ∀ b : Int, 0 ≤ b → b < k → nK f κ (8 * i + c) = yshl 1 b → nK f κ (8 * i + c) = X (8 * i + c) := fun b b1 b2 eb => by
    rw [eb] at w ⊢
    rw [e] at w ⊢
    have u := (sub_b1 (by omega)).mp w
    rw [bt_bit (by omega), decide_eq_true_eq] at u
    rw [show b = a by omega]
  rcases Int.lt_or_gt_of_ne ic with q | q
  · have v := hv i c hi.1 q hc.2
    exact one _ v.1 v.2 (nK_lt ⟨hi.1, q, by omega⟩)
  · have v := hv c i hc.1 q hi.2
    have fv := (hT.2.1 _ v.1 v.2).1
    exact one _ fv.1 fv.2 (nK_gt ⟨hc.1, q, by omega⟩)
end
/-- a join looked at from one of its sides -/
theorem jP_sym {T f : Int → Int} {k a b c : Int} (hT : TH T f k) (ha : 0 ≤ a ∧ a < k) (hb : Se k b) (hc : 0 ≤ c ∧ c < k) : bt (jP T k (yshl 1 a) b) c.toNat = true ↔ bt (jP T k (yshl 1 c) (tP f k b)) a.toNat = true := by
  obtain ⟨hk, hf, hB, hS⟩ := hT
  have sa := (se_bit hk ha).1
  have sc := (se_bit hk hc).1
  have sb := tP_se hk hf hb
  rw [jP_bt hk sa hb, jP_bt hk sc sb]
  constructor
  · rintro ⟨i, j, i1, j1, h1, h2, h3⟩
    rw [bt_bit (by omega), decide_eq_true_eq] at h1
    have ei : i = a := by omega
    subst ei
    have fj := hf j j1.1 j1.2
    refine ⟨c, f j, hc, fj.1, by rw [bt_bit (by omega), decide_eq_true_eq], (tP_bt hk hf hb _).mpr ⟨j, j1, h2, by omega⟩, ?_⟩
    have s := (hS i j c ha.1 ha.2 j1.1 j1.2 hc.1 hc.2).1
    unfold tb at s
    rw [← s]
    exact h3
  · rintro ⟨i, j, i1, j1, h1, h2, h3⟩
    rw [bt_bit (by omega), decide_eq_true_eq] at h1
    have ei : i = c := by omega
    subst ei
    obtain ⟨j', q1, q2, q3⟩ := (tP_bt hk hf hb _).mp h2
    have fj := hf j j1.1 j1.2
    have e : f j' = j := by omega
    have s := (hS a j' i ha.1 ha.2 q1.1 q1.2 hc.1 hc.2).1
    unfold tb at s
    rw [e] at s
    refine ⟨a, j', ha, q1, by rw [bt_bit (by omega), decide_eq_true_eq], q2, ?_⟩
    rw [s]
    exact h3
section
variable {T f : Int → Int} {k n : Int} {X : Int → Int}
theorem op_t (hT : TH T f k) (hX : SN f k n X) {i c : Int} (hi : 0 ≤ i ∧ i < n) (hc : 0 ≤ c ∧ c < n) (ic : i ≠ c) (h : ¬ Op (X (8 * i + c))) : ¬ Op (X (8 * c + i)) := fun o => h (fun a a1 a2 e => by
  have hk := hT.1
  have s := hX i c hi.1 hi.2 hc.1 hc.2 ic
  rw [e] at s
  have ak := bt_al (by omega) s.1 (i := a.toNat) (by rw [bt_bit (by omega), decide_eq_true_eq])
  have fa := (hT.2.1 a a1 (by omega)).1
  rw [tP_bit hk hT.2.1 ⟨a1, by omega⟩] at s
  exact o (f a) fa.1 (by omega) s.2)
/-- where the pair looked over is one -/
theorem box_1 (hT : TH T f k) (hn : n ≤ 8) (hX : SN f k n X) (hC : Cl T k n X) (ho : OneOp n X) {κ : Int → Int} (hv : KV k n κ) (hs : Sb n (nK f κ) X) {i j c : Int} (hi : 0 ≤ i ∧ i < n) (hj : 0 ≤ j ∧ j < n) (hc : 0 ≤ c ∧ c < n) (ij : i ≠ j) (jc : j ≠ c) (ic : i ≠ c) (op : Op (X (8 * i + j))) : stp T k (nK f κ) i j c = nK f κ (8 * i + c) := by
  have hk := hT.1
  have sn := nK_sn hT.1 hT.2.1 hn hv
  have n1 : ¬ Op (X (8 * j + c)) := (ho i j c hi.1 hi.2 hj.1 hj.2 hc.1 hc.2 ij jc ic).resolve_left (fun q => q op)
  have opt : Op (X (8 * j + i)) := Classical.byContradiction (fun q => op_t hT hX hj hi (fun e => ij e.symm) q op)
  have n2 : ¬ Op (X (8 * i + c)) := (ho j i c hj.1 hj.2 hi.1 hi.2 hc.1 hc.2 (fun e => ij e.symm) ic jc).resolve_left (fun q => q opt)
  have e1 := op_eq hT hn hX hv hs hj hc jc n1
  have e2 := op_eq hT hn hX hv hs hi hc ic n2
  -- a bit for each
  have bit : ∀ p q : Int, 0 ≤ p → p < n → 0 ≤ q → q < n → p ≠ q → ∃ a : Int, (0 ≤ a ∧ a < k) ∧ nK f κ (8 * p + q) = yshl 1 a := fun p q p1 p2 q1 q2 pq => by
    rcases Int.lt_or_gt_of_ne pq with w | w
    · exact ⟨_, hv p q p1 w q2, nK_lt ⟨p1, w, by omega⟩⟩
    · have v := hv q p q1 w p2
      exact ⟨_, (hT.2.1 _ v.1 v.2).1, nK_gt ⟨q1, w, by omega⟩⟩
  obtain ⟨a, ha, ea⟩ := bit i c hi.1 hi.2 hc.1 hc.2 ic
  obtain ⟨b, hb, eb⟩ := bit i j hi.1 hi.2 hj.1 hj.2 ij
  have sjc := sn j c hj.1 hj.2 hc.1 hc.2 jc
  -- of X
  have xc := hC i c j hi.1 hi.2 hc.1 hc.2 hj.1 hj.2 ic (fun e => jc e.symm) ij
  have xs := hX j c hj.1 hj.2 hc.1 hc.2 jc
  have w := hs i j hi.1 hi.2 hj.1 hj.2 ij
  rw [eb] at w
  have w2 : bt (X (8 * i + j)) b.toNat = true := (sub_b1 (by omega)).mp w
  have w3 : bt (jP T k (X (8 * i + c)) (X (8 * c + j))) b.toNat = true := by
    unfold stp at xc
    exact sub_bt xc w2
  rw [← e2, ea, xs.2, ← e1] at w3
  have w4 := (jP_sym hT hb sjc.1 ha).mpr w3
  show yand (nK f κ (8 * i + c)) (jP T k (nK f κ (8 * i + j)) (nK f κ (8 * j + c))) = nK f κ (8 * i + c)
  rw [ea, eb]
  exact (sub_b1 (by omega)).mpr w4
theorem box_cl (hT : TH T f k) (hn : n ≤ 8) (hX : SN f k n X) (hC : Cl T k n X) (ho : OneOp n X) {κ : Int → Int} (hv : KV k n κ) (hs : Sb n (nK f κ) X) : Cl T k n (nK f κ) := fun i j c i1 i2 j1 j2 c1 c2 ij jc ic => by
  have hk := hT.1
  have sn := nK_sn hT.1 hT.2.1 hn hv
  by_cases q1 : Op (X (8 * i + j))
  · exact box_1 hT hn hX hC ho hv hs ⟨i1, i2⟩ ⟨j1, j2⟩ ⟨c1, c2⟩ ij jc ic q1
  · by_cases q2 : Op (X (8 * j + c))
    · have opt : Op (X (8 * c + j)) := Classical.byContradiction (fun q => op_t hT hX ⟨c1, c2⟩ ⟨j1, j2⟩ (fun e => jc e.symm) q q2)
      exact stp_t hT sn ⟨c1, c2⟩ ⟨j1, j2⟩ ⟨i1, i2⟩ (fun e => jc e.symm) (fun e => ij e.symm) (fun e => ic e.symm) (box_1 hT hn hX hC ho hv hs ⟨c1, c2⟩ ⟨j1, j2⟩ ⟨i1, i2⟩ (fun e => jc e.symm) (fun e => ij e.symm) (fun e => ic e.symm) opt)
    · have e1 := op_eq hT hn hX hv hs ⟨i1, i2⟩ ⟨j1, j2⟩ ij q1
      have e2 := op_eq hT hn hX hv hs ⟨j1, j2⟩ ⟨c1, c2⟩ jc q2
      have w := hs i c i1 i2 c1 c2 ic
      have x := hC i j c i1 i2 j1 j2 c1 c2 ij jc ic
      show yand (nK f κ (8 * i + c)) (jP T k (nK f κ (8 * i + j)) (nK f κ (8 * j + c))) = nK f κ (8 * i + c)
      rw [e1, e2]
      unfold stp at x
      exact sub_tr ((sn i c i1 i2 c1 c2 ic).1.y hk) w x
/-- a box -/
theorem cn_one (hT : TH T f k) (hn : n ≤ 8) (hX : SN f k n X) (hC : Cl T k n X) (ho : OneOp n X) : cn' T f k n X = pd (fun q => X (8 * q.1 + q.2)) k.toNat (prs n) := cn_box hT hn hX (fun κ hv hs => box_cl hT hn hX hC ho hv hs)
end
