/-! WHAT A SEARCH FINDS -/
theorem uv_in {k : Nat} : ∀ (P : List (Int × Int)), P.Pairwise (fun p q => 8 * p.1 + p.2 ≠ 8 * q.1 + q.2) → ∀ κ : Int → Int, (∀ p ∈ P, 0 ≤ κ (8 * p.1 + p.2) ∧ κ (8 * p.1 + p.2) < k) → ∃ κ' ∈ uv k P, ∀ p ∈ P, κ' (8 * p.1 + p.2) = κ (8 * p.1 + p.2)
  | [], _, _, _ => ⟨fun _ => 0, List.mem_singleton.mpr rfl, fun p h => absurd h List.not_mem_nil⟩
  | p :: r, hd, κ, hv => by
    have h2 := List.pairwise_cons.mp hd
    obtain ⟨κ', m, e⟩ := uv_in r h2.2 κ (fun q hq => hv q (List.mem_cons_of_mem _ hq))
    have v := hv p List.mem_cons_self
    refine ⟨updK κ' p (κ (8 * p.1 + p.2)).toNat, ?_, fun q hq => ?_⟩
    · exact List.mem_flatMap.mpr ⟨κ', m, List.mem_map.mpr ⟨_, List.mem_range.mpr (by omega), rfl⟩⟩
    · unfold updK
      split
      · next w =>
        rw [w]
        exact Int.toNat_of_nonneg v.1
      · next w =>
        rcases List.mem_cons.mp hq with rfl | hq
        · exact absurd rfl w
        · exact e q hq
/-- alike for all pairs -/
def KE (n : Int) (κ κ' : Int → Int) : Prop := ∀ i c : Int, 0 ≤ i → i < c → c < n → κ (8 * i + c) = κ' (8 * i + c)
theorem KE.sy {n : Int} {κ κ' : Int → Int} (h : KE n κ κ') : KE n κ' κ := fun i c a b d => (h i c a b d).symm
theorem KV.cg {k n : Int} {κ κ' : Int → Int} (h : KV k n κ) (e : KE n κ κ') : KV k n κ' := fun i c a b d => by
  rw [← e i c a b d]
  exact h i c a b d
theorem nK_dg {f κ : Int → Int} {i : Int} (hi : 0 ≤ i ∧ i < 8) : nK f κ (8 * i + i) = 1 := by
  unfold nK
  rw [if_neg (by omega), if_neg (by omega)]
theorem nK_cg {f κ κ' : Int → Int} {n : Int} (hn : n ≤ 8) (h : KE n κ κ') {i c : Int} (hi : 0 ≤ i ∧ i < n) (hc : 0 ≤ c ∧ c < n) : nK f κ (8 * i + c) = nK f κ' (8 * i + c) := by
  rcases Int.lt_trichotomy i c with w | w | w
  · rw [nK_lt ⟨hi.1, w, by omega⟩, nK_lt ⟨hi.1, w, by omega⟩, h i c hi.1 w hc.2]
  · subst w
    rw [nK_dg (by omega), nK_dg (by omega)]
  · rw [nK_gt ⟨hc.1, w, by omega⟩, nK_gt ⟨hc.1, w, by omega⟩, h c i hc.1 w hi.2]
theorem Fl.cg {T f : Int → Int} {k n : Int} {X κ κ' : Int → Int} (hn : n ≤ 8) (e : KE n κ κ') (h : Fl T f k n X κ) : Fl T f k n X κ' := by
  refine ⟨fun i c i1 i2 c1 c2 ic => ?_, fun i j c i1 i2 j1 j2 c1 c2 ij jc ic => ?_⟩
  · rw [← nK_cg hn e ⟨i1, i2⟩ ⟨c1, c2⟩]
    exact h.1 i c i1 i2 c1 c2 ic
  · have w := h.2 i j c i1 i2 j1 j2 c1 c2 ij jc ic
    unfold stp at w ⊢
    rw [← nK_cg hn e ⟨i1, i2⟩ ⟨c1, c2⟩, ← nK_cg hn e ⟨i1, i2⟩ ⟨j1, j2⟩, ← nK_cg hn e ⟨j1, j2⟩ ⟨c1, c2⟩]
    exact w
/-- what hangs on the pairs alone -/
def Rsp (n : Int) (P : (Int → Int) → Prop) : Prop := ∀ κ κ' : Int → Int, KE n κ κ' → P κ → P κ'
theorem uv_rep {k n : Int} (hk : 1 ≤ k) (hn : n ≤ 8) {κ : Int → Int} (h : KV k n κ) : ∃ κ' ∈ uv k.toNat (prs n), KE n κ κ' := by
  obtain ⟨κ', m, e⟩ := uv_in (k := k.toNat) (prs n) (prs_pw hn) κ (fun p hp => by
    have o := prs_of hn hp
    have w := h p.1 p.2 o.1 o.2.1 o.2.2.1
    omega)
  exact ⟨κ', m, fun i c a b d => (e (i, c) (prs_in hn ⟨a, b, d⟩)).symm⟩
theorem ct_ex {k n : Int} {P : (Int → Int) → Prop} (hk : 1 ≤ k) (hn : n ≤ 8) (hr : Rsp n P) : 0 < ct P (uv k.toNat (prs n)) ↔ ∃ κ, KV k n κ ∧ P κ := by
  rw [ct_pos]
  constructor
  · rintro ⟨κ, m, h⟩
    exact ⟨κ, uv_kv hk hn m, h⟩
  · rintro ⟨κ, v, h⟩
    obtain ⟨κ', m, e⟩ := uv_rep hk hn v
    exact ⟨κ', m, hr κ κ' e h⟩
theorem rsp_fl {T f : Int → Int} {k n : Int} {X : Int → Int} (hn : n ≤ 8) : Rsp n (Fl T f k n X) := fun _ _ e h => h.cg hn e
/-- what pairs have in some of those -/
def BQ (f : Int → Int) (k n : Int) (P : (Int → Int) → Prop) (S S' : Int → Int) : Prop := ∀ p q : Int, 0 ≤ p → p < n → 0 ≤ q → q < n → ∀ b : Nat, (bt (S' (8 * p + q)) b = true ↔ bt (S (8 * p + q)) b = true ∨ ∃ κ, KV k n κ ∧ P κ ∧ bt (nK f κ (8 * p + q)) b = true)
section
variable {f : Int → Int} {k n : Int} {P P' P'' : (Int → Int) → Prop} {S S' S'' : Int → Int}
theorem BQ.no (h : ∀ κ, KV k n κ → ¬ P κ) : BQ f k n P S S := fun p q _ _ _ _ b => ⟨Or.inl, fun w => w.elim (fun w => w) (fun ⟨κ, v, w, _⟩ => absurd w (h κ v))⟩
theorem BQ.tr (h : BQ f k n P S S') (h' : BQ f k n P' S' S'') (e : ∀ κ, KV k n κ → (P'' κ ↔ P κ ∨ P' κ)) : BQ f k n P'' S S'' := fun p q p1 p2 q1 q2 b => by
  rw [h' p q p1 p2 q1 q2 b, h p q p1 p2 q1 q2 b]
  constructor
  · rintro ((w | ⟨κ, v, w, u⟩) | ⟨κ, v, w, u⟩)
    · exact Or.inl w
    · exact Or.inr ⟨κ, v, (e κ v).mpr (Or.inl w), u⟩
    · exact Or.inr ⟨κ, v, (e κ v).mpr (Or.inr w), u⟩
  · rintro (w | ⟨κ, v, w, u⟩)
    · exact Or.inl (Or.inl w)
    · rcases (e κ v).mp w with w | w
      · exact Or.inl (Or.inr ⟨κ, v, w, u⟩)
      · exact Or.inr ⟨κ, v, w, u⟩
theorem BQ.cg (h : BQ f k n P S S') (e : ∀ κ, KV k n κ → (P κ ↔ P' κ)) : BQ f k n P' S S' := h.tr (BQ.no (P := fun _ => False) (fun _ _ w => w)) (fun κ v => ⟨fun w => Or.inl ((e κ v).mpr w), fun w => w.elim (fun w => (e κ v).mp w) (fun w => w.elim)⟩)
end
/-- fillings whose kind of a pair is below a -/
def PA (T f : Int → Int) (k n : Int) (X : Int → Int) (i c a : Int) (κ : Int → Int) : Prop := Fl T f k n X κ ∧ κ (8 * i + c) < a
section
variable {T f : Int → Int} {k n : Int} {X X' κ : Int → Int} {i c a : Int}
theorem rsp_pa (hn : n ≤ 8) (hi : 0 ≤ i ∧ i < c ∧ c < n) : Rsp n (PA T f k n X i c a) := fun κ κ' e h => ⟨h.1.cg hn e, by rw [← e i c hi.1 hi.2.1 hi.2.2]; exact h.2⟩
theorem pa_0 (hi : 0 ≤ i ∧ i < c ∧ c < n) (hv : KV k n κ) : ¬ PA T f k n X i c 0 κ := fun q => by
  have v := hv i c hi.1 hi.2.1 hi.2.2
  have w := q.2
  omega
theorem pa_k (hi : 0 ≤ i ∧ i < c ∧ c < n) (ha : k ≤ a) (hv : KV k n κ) : PA T f k n X i c a κ ↔ Fl T f k n X κ := by
  have v := hv i c hi.1 hi.2.1 hi.2.2
  exact ⟨fun q => q.1, fun q => ⟨q, by omega⟩⟩
theorem pa_n (hT : TH T f k) (hn : n ≤ 8) (hX : SN f k n X) (hi : 0 ≤ i ∧ i < c ∧ c < n) (ha : 0 ≤ a) (h : bt (X (8 * i + c)) a.toNat ≠ true) (hv : KV k n κ) : PA T f k n X i c (a + 1) κ ↔ PA T f k n X i c a κ := by
  have w := hv i c hi.1 hi.2.1 hi.2.2
  refine ⟨fun q => ⟨q.1, ?_⟩, fun q => ⟨q.1, by have := q.2; omega⟩⟩
  have u := (sb_up hT hn hX hv).mp q.1.1 (i, c) (prs_in hn hi)
  have u1 : bt (X (8 * i + c)) (κ (8 * i + c)).toNat = true := u
  have ne : κ (8 * i + c) ≠ a := fun e => h (by rw [← e]; exact u1)
  have lt := q.2
  omega
theorem pa_s (hT : TH T f k) (hn : n ≤ 8) (hX : SN f k n X) (hi : 0 ≤ i ∧ i < c ∧ c < n) (ha : 0 ≤ a ∧ a < k) (h : bt (X (8 * i + c)) a.toNat = true) (hv : KV k n κ) : (PA T f k n X i c (a + 1) κ ↔ PA T f k n X i c a κ ∨ Fl T f k n (sng f k X i c a) κ) ∧ ¬ (PA T f k n X i c a κ ∧ Fl T f k n (sng f k X i c a) κ) := by
  have s := fl_sng hT hn hX hi ha h hv
  refine ⟨⟨fun q => ?_, fun q => ?_⟩, fun q => ?_⟩
  · by_cases z : κ (8 * i + c) = a
    · exact Or.inr (s.mpr ⟨q.1, z⟩)
    · exact Or.inl ⟨q.1, by have := q.2; omega⟩
  · rcases q with q | q
    · exact ⟨q.1, by have := q.2; omega⟩
    · have := s.mp q
      exact ⟨this.1, by have := this.2; omega⟩
  · have := s.mp q.2
    have := q.1.2
    omega
/-- settling keeps the fillings -/
theorem fl_sok (hT : TH T f k) (hn : n ≤ 8) (h : SOK T f k n X X') (hv : KV k n κ) : Fl T f k n X κ ↔ Fl T f k n X' κ := by
  have sn := nK_sn hT.1 hT.2.1 hn hv
  exact ⟨fun q => ⟨h.2.2.2.2.1 _ sn q.2 q.1, q.2⟩, fun q => ⟨Sb.tr hT.1 sn q.1 h.2.2.2.1, q.2⟩⟩
theorem fl_no (hT : TH T f k) (hn : n ≤ 8) (h : ¬ Good T f k n X) (hv : KV k n κ) : ¬ Fl T f k n X κ := fun q => h ⟨nK f κ, nK_sn hT.1 hT.2.1 hn hv, q.2, nK_ne hT.1 hT.2.1 hn hv, q.1⟩
/-- alike nets have the same fillings -/
theorem fl_eq {κ : Int → Int} (hn : n ≤ 8) (e : EqN X X') : Fl T f k n X κ ↔ Fl T f k n X' κ := by
  have key : ∀ {X X' : Int → Int}, EqN X X' → Fl T f k n X κ → Fl T f k n X' κ := fun e h => ⟨fun i c i1 i2 c1 c2 ic => by
    rw [← e _ (by omega) (by omega)]
    exact h.1 i c i1 i2 c1 c2 ic, h.2⟩
  exact ⟨key e, key e.sy⟩
end
/-! the lowest kind -/
theorem low_bk : ∀ x : Nat, x < 256 → x ≠ 0 → bt (x : Int) (low (x : Int)).toNat = true := by decide +kernel
theorem low_1k : ∀ a : Nat, a < 8 → low (yshl 1 (a : Int)) = a := by decide +kernel
theorem low_b {x : Int} (h : 0 ≤ x ∧ x < 256) (h0 : x ≠ 0) : (0 ≤ low x ∧ low x < 8) ∧ bt x (low x).toNat = true := by
  obtain ⟨m, rfl⟩ := Int.eq_ofNat_of_zero_le h.1
  have a := low_k m (by omega) (by omega)
  exact ⟨⟨a.1, a.2.1⟩, low_bk m (by omega) (by omega)⟩
theorem low_1 {a : Int} (h : 0 ≤ a ∧ a < 8) : low (yshl 1 a) = a := by
  obtain ⟨m, rfl⟩ := Int.eq_ofNat_of_zero_le h.1
  exact low_1k m (by omega)
theorem bc_1 {a : Int} (h : 0 ≤ a ∧ a < 8) : pcb (yshl 1 a) 8 = 1 := by
  have key : ∀ m : Nat, m < 8 → pcb (yshl 1 (m : Int)) 8 = 1 := by decide +kernel
  obtain ⟨m, rfl⟩ := Int.eq_ofNat_of_zero_le h.1
  exact key m (by omega)
theorem not_op {x : Int} (h : ¬ Op x) : ∃ a : Int, 0 ≤ a ∧ a < 8 ∧ x = yshl 1 a := by
  apply Classical.byContradiction
  intro q
  exact h (fun a a1 a2 e => q ⟨a, a1, a2, e⟩)
/-- the lowest of each pair is a choice -/
theorem low_kv {f : Int → Int} {k n : Int} {X : Int → Int} (hk : 1 ≤ k ∧ k ≤ 8) (hX : SN f k n X) (hN : Ne n X) : KV k n (fun x => low (X x)) := fun i c a b d => by
  have s := (hX i c a (by omega) (by omega) d (by omega)).1
  have h8 := al_le hk
  have w := low_b (x := X (8 * i + c)) (by omega) (hN i c a (by omega) (by omega) d (by omega))
  have v := bt_al (by omega) s w.2
  show 0 ≤ low (X (8 * i + c)) ∧ low (X (8 * i + c)) < k
  omega
/-- a choice with a kind of one's own for a pair -/
theorem one_kv {k n : Int} {κ : Int → Int} (h : KV k n κ) {x a : Int} (ha : 0 ≤ a ∧ a < k) : KV k n (fun y => if y = x then a else κ y) := fun i c u v w => by
  show 0 ≤ (if 8 * i + c = x then a else κ (8 * i + c)) ∧ (if 8 * i + c = x then a else κ (8 * i + c)) < k
  split
  · exact ha
  · exact h i c u v w
/-- what a closed box has, some filling has -/
theorem box_ex {T f : Int → Int} {k n : Int} {X : Int → Int} (hT : TH T f k) (hn : n ≤ 8) (hX : SN f k n X) (hN : Ne n X) (hC : Cl T k n X) (ho : OneOp n X) {p q : Int} (hp : 0 ≤ p ∧ p < n) (hq : 0 ≤ q ∧ q < n) (pq : p ≠ q) {b : Nat} (hb : bt (X (8 * p + q)) b = true) : ∃ κ, KV k n κ ∧ Fl T f k n X κ ∧ bt (nK f κ (8 * p + q)) b = true := by
  have hk := hT.1
  have h8 := al_le hk
  have lk := low_kv hk hX hN
  have up : ∀ i c : Int, 0 ≤ i → i < c → c < n → ∀ a : Int, (0 ≤ a ∧ a < k) → bt (X (8 * i + c)) a.toNat = true → ∃ κ, KV k n κ ∧ Fl T f k n X κ ∧ κ (8 * i + c) = a := fun i c i1 ic cn a ha hb => by
    have v := one_kv (x := 8 * i + c) lk ha
    refine ⟨_, v, ⟨?_, ?_⟩, if_pos rfl⟩
    · refine (sb_up hT hn hX v).mpr (fun t ht => ?_)
      have o := prs_of hn ht
      show bt (X (8 * t.1 + t.2)) (if 8 * t.1 + t.2 = 8 * i + c then a else low (X (8 * t.1 + t.2))).toNat = true
      split
      · next e => rw [e]; exact hb
      · have s := (hX t.1 t.2 o.1 (by omega) (by omega) o.2.2.1 (by omega)).1
        exact (low_b (by omega) (hN t.1 t.2 o.1 (by omega) (by omega) o.2.2.1 (by omega))).2
    · refine box_cl hT hn hX hC ho v ?_
      refine (sb_up hT hn hX v).mpr (fun t ht => ?_)
      have o := prs_of hn ht
      show bt (X (8 * t.1 + t.2)) (if 8 * t.1 + t.2 = 8 * i + c then a else low (X (8 * t.1 + t.2))).toNat = true
      split
      · next e => rw [e]; exact hb
      · have s := (hX t.1 t.2 o.1 (by omega) (by omega) o.2.2.1 (by omega)).1
        exact (low_b (by omega) (hN t.1 t.2 o.1 (by omega) (by omega) o.2.2.1 (by omega))).2
  have s := hX p q hp.1 hp.2 hq.1 hq.2 pq
  have bk := bt_al (by omega) s.1 hb
  rcases Int.lt_or_gt_of_ne pq with w | w
  · obtain ⟨κ, v, fl, e⟩ := up p q hp.1 w hq.2 (b : Int) (by omega) (by rw [Int.toNat_natCast]; exact hb)
    refine ⟨κ, v, fl, ?_⟩
    rw [nK_lt ⟨hp.1, w, by omega⟩, e, bt_bit (by omega), decide_eq_true_eq]
    omega
  · have s' := hX q p hq.1 hq.2 hp.1 hp.2 (fun e => pq e.symm)
    rw [s'.2] at hb
    obtain ⟨a, ha, h1, h2⟩ := (tP_bt hk hT.2.1 s'.1 b).mp hb
    obtain ⟨κ, v, fl, e⟩ := up q p hq.1 w hp.2 a ha h1
    refine ⟨κ, v, fl, ?_⟩
    have fa := (hT.2.1 a ha.1 ha.2).1
    rw [nK_gt ⟨hq.1, w, by omega⟩, e, bt_bit (by omega), decide_eq_true_eq]
    omega
/-! how many a box has, at most -/
theorem pd_app {S : Int × Int → Int} {k : Nat} : ∀ l m : List (Int × Int), pd S k (l ++ m) = pd S k l * pd S k m
  | [], m => by simp only [List.nil_append, pd]; omega
  | p :: l, m => by
    have ih := pd_app (S := S) (k := k) l m
    simp only [List.cons_append, pd]
    rw [ih, Int.mul_assoc]
theorem pd_nn {S : Int × Int → Int} {k : Nat} : ∀ l : List (Int × Int), (∀ p ∈ l, 1 ≤ pcb (S p) k) → 1 ≤ pd S k l
  | [], _ => Int.le_refl _
  | p :: l, h => by
    have ih := pd_nn (S := S) (k := k) l (fun q hq => h q (List.mem_cons_of_mem _ hq))
    have hp := h p List.mem_cons_self
    simp only [pd]
    have := Int.mul_le_mul hp ih (by omega) (by omega)
    omega
theorem pd_1 {S : Int × Int → Int} {k : Nat} : ∀ l : List (Int × Int), (∀ p ∈ l, pcb (S p) k = 1) → pd S k l = 1
  | [], _ => rfl
  | p :: l, h => by
    have ih := pd_1 (S := S) (k := k) l (fun q hq => h q (List.mem_cons_of_mem _ hq))
    have hp := h p List.mem_cons_self
    simp only [pd]
    rw [hp, ih]
    rfl
theorem pd_8 {S : Int × Int → Int} : ∀ l : List (Int × Int), l.Pairwise (fun p q => pcb (S p) 8 = 1 ∨ pcb (S q) 8 = 1) → (∀ p ∈ l, 1 ≤ pcb (S p) 8) → pd S 8 l ≤ 8
  | [], _, _ => by simp only [pd]; omega
  | p :: l, hp, h1 => by
    have h2 := List.pairwise_cons.mp hp
    have ih := pd_8 (S := S) l h2.2 (fun q hq => h1 q (List.mem_cons_of_mem _ hq))
    have b := (pcb_b (S p) 8).2
    simp only [pd]
    by_cases w : pcb (S p) 8 = 1
    · rw [w]; omega
    · rw [pd_1 l (fun q hq => (h2.1 q hq).resolve_left w)]; omega
theorem gC_of {i : Int} : ∀ (m : Nat) (c : Int) (p : Int × Int), p ∈ gC i m c → p.1 = i ∧ c ≤ p.2 ∧ p.2 < c + m
  | 0, _, _, h => absurd h List.not_mem_nil
  | m + 1, c, p, h => by
    rcases List.mem_cons.mp h with rfl | h
    · exact ⟨rfl, by omega, by omega⟩
    · have := gC_of m (c + 1) p h
      omega
theorem gC_pw {i : Int} {S : Int × Int → Int} : ∀ (m : Nat) (c : Int), (∀ p q : Int, c ≤ p → p < q → q < c + m → pcb (S (i, p)) 8 = 1 ∨ pcb (S (i, q)) 8 = 1) → (gC i m c).Pairwise (fun p q => pcb (S p) 8 = 1 ∨ pcb (S q) 8 = 1)
  | 0, _, _ => List.Pairwise.nil
  | m + 1, c, h => by
    refine List.pairwise_cons.mpr ⟨fun q hq => ?_, gC_pw m (c + 1) (fun p q a b d => h p q (by omega) b (by omega))⟩
    have o := gC_of m (c + 1) q hq
    have w := h c q.2 (by omega) (by omega) (by omega)
    rw [show (i, q.2) = q by rw [← o.1]] at w
    exact w
theorem pd_gI {n : Int} {S : Int × Int → Int} (h1 : ∀ i c : Int, 0 ≤ i → i < c → c < n → 1 ≤ pcb (S (i, c)) 8) (h2 : ∀ i p q : Int, 0 ≤ i → i < p → p < q → q < n → pcb (S (i, p)) 8 = 1 ∨ pcb (S (i, q)) 8 = 1) : ∀ (m : Nat) (i : Int), 0 ≤ i → i + m = n → 1 ≤ pd S 8 (gI n m i) ∧ pd S 8 (gI n m i) ≤ 8 ^ m
  | 0, _, _, _ => by simp only [gI, pd]; omega
  | m + 1, i, hi, e => by
    have ih := pd_gI h1 h2 m (i + 1) (by omega) (by omega)
    simp only [gI]
    rw [pd_app]
    have a1 : ∀ p ∈ gC i (n - (i + 1)).toNat (i + 1), 1 ≤ pcb (S p) 8 := fun p hp => by
      have o := gC_of _ _ p hp
      have w := h1 i p.2 hi (by omega) (by omega)
      rw [show (i, p.2) = p by rw [← o.1]] at w
      exact w
    have b1 := pd_nn _ a1
    have b2 := pd_8 _ (gC_pw _ _ (fun p q a b d => h2 i p q hi (by omega) b (by omega))) a1
    have c1 := Int.mul_le_mul b1 ih.1 (by omega) (by omega)
    have c2 := Int.mul_le_mul b2 ih.2 (by omega) (by omega)
    rw [Int.pow_succ]
    omega
theorem pcb_z {x : Int} (h : 0 ≤ x ∧ x < 256) (h0 : x ≠ 0) : 1 ≤ pcb x 8 := by
  have key : ∀ m : Nat, m < 256 → m ≠ 0 → 1 ≤ pcb (m : Int) 8 := by decide +kernel
  obtain ⟨m, rfl⟩ := Int.eq_ofNat_of_zero_le h.1
  exact key m (by omega) (by omega)
theorem pd_bd {T f : Int → Int} {k n : Int} {X : Int → Int} (hT : TH T f k) (hn : 1 ≤ n ∧ n ≤ 8) (hX : SN f k n X) (hN : Ne n X) (ho : OneOp n X) : 1 ≤ pd (fun q => X (8 * q.1 + q.2)) 8 (prs n) ∧ pd (fun q => X (8 * q.1 + q.2)) 8 (prs n) ≤ 16777216 := by
  have hk := hT.1
  have h8 := al_le hk
  have one : ∀ i c : Int, 0 ≤ i → i < n → 0 ≤ c → c < n → ¬ Op (X (8 * i + c)) → pcb (X (8 * i + c)) 8 = 1 := fun i c _ _ _ _ h => by
    obtain ⟨a, a1, a2, e⟩ := not_op h
    rw [e]
    exact bc_1 ⟨a1, a2⟩
  have w := pd_gI (n := n) (S := fun q => X (8 * q.1 + q.2)) (fun i c a b d => by
    have s := (hX i c a (by omega) (by omega) d (by omega)).1
    exact pcb_z (x := X (8 * i + c)) (by omega) (hN i c a (by omega) (by omega) d (by omega))) (fun i p q a b d e => by
    rcases ho p i q (by omega) (by omega) a (by omega) (by omega) e (by omega) (by omega) (by omega) with z | z
    · refine Or.inl (one i p a (by omega) (by omega) (by omega) ?_)
      exact op_t hT hX ⟨by omega, by omega⟩ ⟨a, by omega⟩ (by omega) z
    · exact Or.inr (one i q a (by omega) (by omega) e z)) n.toNat 0 (by omega) (by omega)
  have e : prs n = gI n n.toNat 0 := by
    unfold prs gIs
    rw [show (n - 0).toNat = n.toNat by omega]
  rw [e]
  refine ⟨w.1, Int.le_trans w.2 ?_⟩
  have key : ∀ m : Nat, m ≤ 8 → (8 : Int) ^ m ≤ 16777216 := by decide +kernel
  exact key _ (by omega)
/-! how many pairs have more kinds -/
noncomputable def opc (n : Int) (X : Int → Int) : Int := ms n (fun i c => b01 (Om (X (8 * i + c)))) up28
theorem opc_b (n : Int) (X : Int → Int) : 0 ≤ opc n X ∧ opc n X ≤ 28 := by
  refine ⟨ms_nn _ (fun p _ _ => (b01_b _).1), ?_⟩
  have key : ∀ l : List (Int × Int), ms n (fun i c => b01 (Om (X (8 * i + c)))) l ≤ l.length := by
    intro l
    induction l with
    | nil => exact Int.le_refl _
    | cons p r ih =>
      have := (b01_b (Om (X (8 * p.1 + p.2)))).2
      simp only [ms, List.length_cons]
      split <;> omega
  have := key up28
  rw [up28_len] at this
  exact this
theorem up28_m {i c : Int} (h : 0 ≤ i ∧ i < c ∧ c < 8) : (i, c) ∈ up28 := by
  have m := up28_in c.toNat (by omega) i.toNat (by omega)
  rw [show ((i.toNat : Nat) : Int) = i by omega, show ((c.toNat : Nat) : Int) = c by omega] at m
  exact m
theorem opc_p {n : Int} {X : Int → Int} (hn : n ≤ 8) {i c : Int} (hi : 0 ≤ i ∧ i < c ∧ c < n) (h : Om (X (8 * i + c))) : 0 < opc n X := by
  have w := ms_lt (n := n) (f := fun i c => b01 (Om (X (8 * i + c)))) (g := fun _ _ => 0) up28 (fun p _ _ => (b01_b _).1) ⟨(i, c), up28_m (by omega), hi.2.2, by
    show 0 < b01 (Om (X (8 * i + c)))
    rw [b01_t h]
    decide⟩
  have z : 0 ≤ ms n (fun _ _ => (0 : Int)) up28 := ms_nn _ (fun _ _ _ => Int.le_refl _)
  unfold opc
  omega
theorem om_sub {x y : Int} (hx : 0 ≤ x ∧ x < 256) (hy : 0 ≤ y ∧ y < 256) (hs : Sub x y) (h0 : y ≠ 0) (h : Om x) : Om y := by
  apply Classical.byContradiction
  intro q
  obtain ⟨a, a1, a2, e⟩ := not_op (om_op hy h0 q)
  have w : pcb x 8 ≤ pcb y 8 := pcb_m hs 8
  rw [e, bc_1 ⟨a1, a2⟩] at w
  have v := om_bc hx
  have u := v.1.mp h
  rw [v.2.2.2] at u
  omega
theorem om_1b {a : Int} (h : 0 ≤ a ∧ a < 8) : ¬ Om (yshl 1 a) := by
  have key : ∀ m : Nat, m < 8 → ¬ Om (yshl 1 (m : Int)) := by
    unfold Om
    decide +kernel
  obtain ⟨m, rfl⟩ := Int.eq_ofNat_of_zero_le h.1
  exact key m (by omega)
/-- a kind chosen, there are fewer -/
theorem opc_lt {T f : Int → Int} {k n : Int} {X Y : Int → Int} (hT : TH T f k) (hn : n ≤ 8) (hX : SN f k n X) (hY : SN f k n Y) (hN : Ne n X) {i c a : Int} (hi : 0 ≤ i ∧ i < c ∧ c < n) (ha : 0 ≤ a ∧ a < k) (hb : bt (X (8 * i + c)) a.toNat = true) (ho : Om (X (8 * i + c))) (hs : Sb n Y (sng f k X i c a)) : opc n Y < opc n X := by
  have hk := hT.1
  have h8 := al_le hk
  have sn := sng_sn hX hk hT.2.1 hn hi ha
  have le : ∀ p ∈ up28, p.2 < n → Om (Y (8 * p.1 + p.2)) → Om (X (8 * p.1 + p.2)) ∧ ¬ (p.1 = i ∧ p.2 = c) := fun p hp pn o => by
    have u := up28_of p hp
    have s := hs p.1 p.2 u.1 (by omega) (by omega) pn (by omega)
    have y := (hY p.1 p.2 u.1 (by omega) (by omega) pn (by omega)).1
    have x := (hX p.1 p.2 u.1 (by omega) (by omega) pn (by omega)).1
    unfold sng at s
    rw [up2_at (by omega) (by omega) (by omega) (by omega), if_neg (by omega)] at s
    by_cases e : p.1 = i ∧ p.2 = c
    · rw [if_pos e] at s
      exact absurd (om_sub (by omega) (by have := (se_bit hk ha).1; omega) s (se_bit hk ha).2 o) (om_1b (by omega))
    · rw [if_neg e] at s
      exact ⟨om_sub (by omega) (by omega) s (hN p.1 p.2 u.1 (by omega) (by omega) pn (by omega)) o, e⟩
  refine ms_lt _ (fun p hp pn => ?_) ⟨(i, c), up28_m (by omega), hi.2.2, ?_⟩
  · show b01 (Om (Y (8 * p.1 + p.2))) ≤ b01 (Om (X (8 * p.1 + p.2)))
    by_cases o : Om (Y (8 * p.1 + p.2))
    · rw [b01_t o, b01_t (le p hp pn o).1]; exact Int.le_refl _
    · rw [b01_f o]; exact (b01_b _).1
  · show b01 (Om (Y (8 * i + c))) < b01 (Om (X (8 * i + c)))
    rw [b01_t ho, b01_f (fun o => (le (i, c) (up28_m (by omega)) hi.2.2 o).2 ⟨rfl, rfl⟩)]
    decide
/-! the first filling -/
/-- in the order of the pairs no filling comes ahead -/
def LX (T f : Int → Int) (k n : Int) (X κ : Int → Int) : Prop := Fl T f k n X κ ∧ ∀ i c : Int, 0 ≤ i → i < c → c < n → ∀ κ', KV k n κ' → Fl T f k n X κ' → (∀ p q : Int, 0 ≤ p → p < q → q < n → 8 * p + q < 8 * i + c → κ' (8 * p + q) = κ (8 * p + q)) → κ (8 * i + c) ≤ κ' (8 * i + c)
theorem LX.un {T f : Int → Int} {k n : Int} {X κ κ' : Int → Int} (hn : n ≤ 8) (hv : KV k n κ) (hv' : KV k n κ') (h : LX T f k n X κ) (h' : LX T f k n X κ') : KE n κ κ' := by
  have key : ∀ (m : Nat) (i c : Int), 0 ≤ i → i < c → c < n → 8 * i + c < m → κ (8 * i + c) = κ' (8 * i + c) := by
    intro m
    induction m with
    | zero => intro i c a b d e; omega
    | succ m ih =>
      intro i c a b d e
      have w1 := h.2 i c a b d κ' hv' h'.1 (fun p q p1 p2 p3 p4 => (ih p q p1 p2 p3 (by omega)).symm)
      have w2 := h'.2 i c a b d κ hv h.1 (fun p q p1 p2 p3 p4 => ih p q p1 p2 p3 (by omega))
      omega
  exact fun i c a b d => key (8 * i + c + 1).toNat i c a b d (by omega)
