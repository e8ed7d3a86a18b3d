/-! THE SMALL TESTS -/
theorem yshl_k : ∀ n : Nat, n ≤ 8 → yshl 1 (n : Int) - 1 = (2 : Int) ^ n - 1 := by decide
/-- all kinds -/
def al (k : Int) : Int := (2 : Int) ^ k.toNat - 1
theorem al_ok {k : Int} (h : 0 ≤ k ∧ k ≤ 8) : yshl 1 k - 1 = al k := by
  obtain ⟨n, rfl⟩ := Int.eq_ofNat_of_zero_le h.1
  exact yshl_k n (by omega)
theorem al_n : ∀ n : Nat, n ≤ 8 → al (n : Int) ≤ 255 ∧ 0 ≤ al (n : Int) ∧ (1 ≤ n → 1 ≤ al (n : Int)) := by decide
theorem al_le {k : Int} (h : 1 ≤ k ∧ k ≤ 8) : 1 ≤ al k ∧ al k ≤ 255 := by
  obtain ⟨n, rfl⟩ := Int.eq_ofNat_of_zero_le (show 0 ≤ k by omega)
  have := al_n n (by omega)
  exact ⟨this.2.2 (by omega), this.1⟩
section
variable {d : Nat} {M : yM}
theorem c12_in {Q : Int → yM → Prop} {v lo hi : Int} (hv : yR v) (hl : yR lo) (hh : yR hi) (k : ∀ r, (r = 1 ∧ lo ≤ v ∧ v ≤ hi ∨ r = 0 ∧ ¬(lo ≤ v ∧ v ≤ hi)) → Q r M) : XCi d 120 [.inl v, .inl lo, .inl hi] M Q := by
  obtain ⟨hv1, hv2⟩ := hv
  obtain ⟨hl1, hl2⟩ := hl
  obtain ⟨hh1, hh2⟩ := hh
  refine eX12_in ?_
  repeat' first
    | (rintro _ rfl)
    | (refine uX12_in_0 (by first | omega | assumption) (by first | omega | assumption) (fun hc => ?_) (fun hc => ?_))
    | (refine uX12_in_5 (by first | omega | assumption) (by first | omega | assumption) (fun hc => ?_) (fun hc => ?_))
    | (refine uX12_in_10 ?_)
    | (refine uX12_in_14 ?_)
    | (refine uX12_in_15 (by first | omega | assumption) ?_)
    | (refine uX12_in_0 ?_ ?_ (fun hc => ?_) (fun hc => ?_))
    | (refine uX12_in_5 ?_ ?_ (fun hc => ?_) (fun hc => ?_))
    | (refine uX12_in_15 ?_ ?_)
  all_goals exact k _ (by omega)
theorem c12_all {Q : Int → yM → Prop} (hk : 0 ≤ ld M 92 2 ∧ ld M 92 2 ≤ 8) (k : Q (al (ld M 92 2)) M) : XCi d 121 [.inr (.inr 92)] M Q := by
  refine eX12_all ?_
  rw [← al_ok hk] at k
  refine uX12_all_0 ?_
  exact k
theorem c12_isKind {Q : Int → yM → Prop} {a : Int} (ha : yR a) (hk : 1 ≤ ld M 92 2 ∧ ld M 92 2 ≤ 8) (k : ∀ r, (r = 1 ∧ 1 ≤ a ∧ a < ld M 92 2 ∨ r = 0 ∧ ¬(1 ≤ a ∧ a < ld M 92 2)) → Q r M) : XCi (d + 1) 122 [.inr (.inr 92), .inl a] M Q := by
  refine eX12_isKind ?_
  refine uX12_isKind_0 ?_
  refine c12_in ha (by omega) (by omega) (fun r hr => ?_)
  refine uX12_isKind_11 ?_ ?_
  · omega
  · exact k _ (by omega)
theorem c12_isPoint {Q : Int → yM → Prop} {a : Int} (ha : yR a) (hk : 1 ≤ ld M 92 11 ∧ ld M 92 11 ≤ 8) (k : ∀ r, (r = 1 ∧ 0 ≤ a ∧ a < ld M 92 11 ∨ r = 0 ∧ ¬(0 ≤ a ∧ a < ld M 92 11)) → Q r M) : XCi (d + 1) 124 [.inr (.inr 92), .inl a] M Q := by
  refine eX12_isPoint ?_
  refine uX12_isPoint_0 ?_
  refine c12_in ha (by omega) (by omega) (fun r hr => ?_)
  refine uX12_isPoint_11 ?_ ?_
  · omega
  · exact k _ (by omega)
theorem c12_isSet {Q : Int → yM → Prop} {a : Int} (ha : yR a) (hk : 1 ≤ ld M 92 2 ∧ ld M 92 2 ≤ 8) (k : ∀ r, (r = 1 ∧ 0 ≤ a ∧ a ≤ al (ld M 92 2) ∨ r = 0 ∧ ¬(0 ≤ a ∧ a ≤ al (ld M 92 2))) → Q r M) : XCi (d + 1) 123 [.inr (.inr 92), .inl a] M Q := by
  have hal := al_le hk
  refine eX12_isSet ?_
  refine uX12_isSet_0 ?_
  refine c12_all (by omega) ?_
  refine uX12_isSet_6 ?_
  refine c12_in ha (by omega) (by omega) (fun r hr => ?_)
  refine uX12_isSet_9 ?_ ?_
  · omega
  · exact k _ (by omega)
theorem c12_isTerm {Q : Int → yM → Prop} {a : Int} (ha : yR a) (k : ∀ r, (r = 1 ∧ 0 ≤ a ∧ a < 4 ∨ r = 0 ∧ ¬(0 ≤ a ∧ a < 4)) → Q r M) : XCi (d + 1) 168 [.inl a] M Q := by
  refine eX12_isTerm ?_
  refine uX12_isTerm_0 ?_
  refine c12_in ha (by omega) (by omega) (fun r hr => ?_)
  repeat' first
    | (rintro _ rfl)
    | (refine uX12_isTerm_0 ?_)
    | (refine uX12_isTerm_6 (by first | omega | assumption) ?_)
    | (refine uX12_isTerm_6 ?_ ?_)
  exact k _ (by omega)
theorem c11_isOther {Q : Int → yM → Prop} {a : Int} (ha : yR a) (k : ∀ r, (r = 1 ∧ 1 ≤ a ∧ a < ld M 1 0 ∨ r = 0 ∧ ¬(1 ≤ a ∧ a < ld M 1 0)) → Q r M) : XCi d 109 [.inr (.inr 0), .inl a] M Q := by
  obtain ⟨ha1, ha2⟩ := ha
  refine eX11_isOther ?_
  repeat' first
    | (rintro _ rfl)
    | (refine uX11_isOther_0 (by first | omega | assumption) (fun hc => ?_) (fun hc => ?_))
    | (refine uX11_isOther_4 (by first | omega | assumption) (fun hc => ?_) (fun hc => ?_))
    | (refine uX11_isOther_15 ?_)
    | (refine uX11_isOther_19 ?_)
    | (refine uX11_isOther_20 (by first | omega | assumption) ?_)
    | (refine uX11_isOther_0 ?_ (fun hc => ?_) (fun hc => ?_))
    | (refine uX11_isOther_4 ?_ (fun hc => ?_) (fun hc => ?_))
    | (refine uX11_isOther_20 ?_ ?_)
  all_goals exact k _ (by omega)
theorem c11_isChoice {Q : Int → yM → Prop} {a : Int} (ha : yR a) (k : ∀ r, (r = 1 ∧ (a = 0 ∨ a = 1) ∨ r = 0 ∧ ¬(a = 0 ∨ a = 1)) → Q r M) : XCi d 110 [.inl a] M Q := by
  obtain ⟨ha1, ha2⟩ := ha
  refine eX11_isChoice ?_
  repeat' first
    | (rintro _ rfl)
    | (refine uX11_isChoice_0 (by first | omega | assumption) (fun hc => ?_) (fun hc => ?_))
    | (refine uX11_isChoice_4 (by first | omega | assumption) (fun hc => ?_) (fun hc => ?_))
    | (refine uX11_isChoice_9 ?_)
    | (refine uX11_isChoice_13 ?_)
    | (refine uX11_isChoice_14 (by first | omega | assumption) ?_)
    | (refine uX11_isChoice_0 ?_ (fun hc => ?_) (fun hc => ?_))
    | (refine uX11_isChoice_4 ?_ (fun hc => ?_) (fun hc => ?_))
    | (refine uX11_isChoice_14 ?_ ?_)
  all_goals exact k _ (by omega)
theorem c11_isWay {Q : Int → yM → Prop} {a : Int} (ha : yR a) (k : ∀ r, (r = 1 ∧ -1 ≤ a ∧ a < 3 ∨ r = 0 ∧ ¬(-1 ≤ a ∧ a < 3)) → Q r M) : XCi d 111 [.inl a] M Q := by
  obtain ⟨ha1, ha2⟩ := ha
  refine eX11_isWay ?_
  repeat' first
    | (rintro _ rfl)
    | (refine uX11_isWay_0 (by first | omega | assumption) (fun hc => ?_) (fun hc => ?_))
    | (refine uX11_isWay_5 (by first | omega | assumption) (fun hc => ?_) (fun hc => ?_))
    | (refine uX11_isWay_10 ?_)
    | (refine uX11_isWay_14 ?_)
    | (refine uX11_isWay_15 (by first | omega | assumption) ?_)
    | (refine uX11_isWay_0 ?_ (fun hc => ?_) (fun hc => ?_))
    | (refine uX11_isWay_5 ?_ (fun hc => ?_) (fun hc => ?_))
    | (refine uX11_isWay_15 ?_ ?_)
  all_goals exact k _ (by omega)
theorem c11_isTerm {Q : Int → yM → Prop} {a : Int} (ha : yR a) (k : ∀ r, (r = 1 ∧ 0 ≤ a ∧ a < 4 ∨ r = 0 ∧ ¬(0 ≤ a ∧ a < 4)) → Q r M) : XCi d 112 [.inl a] M Q := by
  obtain ⟨ha1, ha2⟩ := ha
  refine eX11_isTerm ?_
  repeat' first
    | (rintro _ rfl)
    | (refine uX11_isTerm_0 (by first | omega | assumption) (fun hc => ?_) (fun hc => ?_))
    | (refine uX11_isTerm_4 (by first | omega | assumption) (fun hc => ?_) (fun hc => ?_))
    | (refine uX11_isTerm_9 ?_)
    | (refine uX11_isTerm_13 ?_)
    | (refine uX11_isTerm_14 (by first | omega | assumption) ?_)
    | (refine uX11_isTerm_0 ?_ (fun hc => ?_) (fun hc => ?_))
    | (refine uX11_isTerm_4 ?_ (fun hc => ?_) (fun hc => ?_))
    | (refine uX11_isTerm_14 ?_ ?_)
  all_goals exact k _ (by omega)
theorem c9_all {Q : Int → yM → Prop} (hk : 0 ≤ ld M 1 0 ∧ ld M 1 0 ≤ 8) (k : Q (al (ld M 1 0)) M) : XCi d 60 [.inr (.inr 1)] M Q := by
  refine eX9_all ?_
  rw [← al_ok hk] at k
  refine uX9_all_0 ?_
  exact k
theorem c9_hasSet {Q : Int → yM → Prop} {a : Int} (ha : yR a) (hk : 1 ≤ ld M 1 0 ∧ ld M 1 0 ≤ 8) (k : ∀ r, (r = 1 ∧ 0 ≤ a ∧ a ≤ al (ld M 1 0) ∨ r = 0 ∧ ¬(0 ≤ a ∧ a ≤ al (ld M 1 0))) → Q r M) : XCi (d + 1) 61 [.inr (.inr 1), .inl a] M Q := by
  have hal := al_le hk
  obtain ⟨ha1, ha2⟩ := ha
  refine eX9_hasSet ?_
  repeat' first
    | (rintro _ rfl)
    | (refine c9_all (by omega) ?_)
    | (refine uX9_hasSet_0 (by first | omega | assumption) (fun hc => ?_) (fun hc => ?_))
    | (refine uX9_hasSet_4 ?_)
    | (refine uX9_hasSet_9 (by first | omega | assumption) (by first | omega | assumption) (fun hc => ?_) (fun hc => ?_))
    | (refine uX9_hasSet_12 ?_)
    | (refine uX9_hasSet_16 ?_)
    | (refine uX9_hasSet_17 (by first | omega | assumption) ?_)
    | (refine uX9_hasSet_0 ?_ (fun hc => ?_) (fun hc => ?_))
    | (refine uX9_hasSet_9 ?_ ?_ (fun hc => ?_) (fun hc => ?_))
    | (refine uX9_hasSet_17 ?_ ?_)
  all_goals exact k _ (by omega)
theorem c5_has {Q : Int → yM → Prop} {a : Int} (ha : yR a) (k : ∀ r, (r = 1 ∧ 0 ≤ a ∧ a < ld M 19 0 ∨ r = 0 ∧ ¬(0 ≤ a ∧ a < ld M 19 0)) → Q r M) : XCi d 37 [.inr (.inr 19), .inl a] M Q := by
  obtain ⟨ha1, ha2⟩ := ha
  refine eX5_has ?_
  repeat' first
    | (rintro _ rfl)
    | (refine uX5_has_0 (by first | omega | assumption) (fun hc => ?_) (fun hc => ?_))
    | (refine uX5_has_4 (by first | omega | assumption) (fun hc => ?_) (fun hc => ?_))
    | (refine uX5_has_12 ?_)
    | (refine uX5_has_16 ?_)
    | (refine uX5_has_17 (by first | omega | assumption) ?_)
    | (refine uX5_has_0 ?_ (fun hc => ?_) (fun hc => ?_))
    | (refine uX5_has_4 ?_ (fun hc => ?_) (fun hc => ?_))
    | (refine uX5_has_17 ?_ ?_)
  all_goals exact k _ (by omega)
end
