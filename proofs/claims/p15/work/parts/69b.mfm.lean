/-! MODEL: THE SEARCH EXACTLY -/
/-- from a level on: it comes back to the level above with all counted, or ends with enough -/
theorem n_flm {d : Nat} {Q : yM → Prop} {x1 n c k : Int} {T f : Int → Int} (hx1 : 1 ≤ x1 ∧ x1 ≤ 20001) (hT : TH T f k) (hn : 1 ≤ n ∧ n ≤ 8) (hc : 0 ≤ c ∧ c ≤ 28) : ∀ (m : Nat) (a : Int) (Mb : yM), 0 ≤ a → a + m = c → PRX Mb c n → MCT Mb T f k n → ld Mb 92 15 = c → LVM T f k n Mb a (tn Mb (64 * (a + 1))) → (a < c → ld Mb 103 a = -1) → (0 ≤ ld Mb 92 17 ∧ ld Mb 92 17 ≤ x1) →
    (∀ (M' : yM) (w3 w4 w5 : Option yV), fr (wDp a) Mb M' → FLQ T f k n (Fl T f k n (tn Mb (64 * (a + 1)))) (tn Mb (64 * (a + 1))) Mb M' → ld M' 92 17 ≤ x1 → XW kX12_fills (d + 4) none (wQv Q) 129 [some (.inr (.inr 92)), some (.inl x1), some (.inl (a - 1)), w3, w4, w5] [] M') → (∀ M', fr (wDp a) Mb M' → FLE T f k n x1 (tn Mb (64 * (a + 1))) Mb M' → Q M') →
    ∀ w3 w4 w5 : Option yV, XW kX12_fills (d + 4) none (wQv Q) 129 [some (.inr (.inr 92)), some (.inl x1), some (.inl a), w3, w4, w5] [] Mb := by
  have hk := hT.1
  have hk1 := hk.1
  have hn2 := hn.2
  have al8 := al_le hk
  have hx1r : yR x1 := by unfold yR; omega
  intro m
  induction m with
  | zero =>
    intro a Mb ha hac hP hM hc2 hL hko h17 K E w3 w4 w5
    refine uX12_fills_129 (by omega) (fun _ => by omega) (fun _ => ?_)
    refine uX12_fills_133 hx1r (fun hge => uX12_fills_324 (E _ fr.rf ?_)) (fun hlt => ?_)
    · exact FLE.of (P := fun _ => False) hk1 hn2 hx1.1 (FLQ.z hk1 hn2 (fun _ _ q => q) (SFq.rf _)) (fun _ _ q => q.elim) (by omega) h17.1
    refine uX12_fills_141 (by omega) (fun _ => by omega) (fun _ => ?_)
    refine uX12_fills_156 ?_
    have hac' : a = c := by omega
    subst hac'
    have s1 := hL.s1 hP hT hn2
    obtain ⟨sn, cl, ne, dg, _⟩ := hL
    have te := tn_e (M := Mb) (o := 64 * (a + 1))
    refine n12_takes hM (by omega) (fun p q p1 p2 q1 q2 => by
      rw [← te (8 * p + q) (by omega) (by omega)]
      obtain ⟨b, b1, b2⟩ := s1 p q p1 p2 q1 q2
      exact ⟨b, b1, b2⟩) (by omega) (fun M2 f2 t s r => ?_)
    refine uX12_fills_161 ?_
    refine uX12_fills_321 ?_
    refine K M2 _ _ _ (f2.up (fun o j hw => by unfold wDp; omega)) ?_ (by omega)
    exact FLQ.one hT hn sn cl ne dg s1 t (fun p q p1 p2 q1 q2 => by
      rw [te (8 * p + q) (by omega) (by omega)]
      exact s p q p1 p2 q1 q2) (fun p q p1 p2 q1 q2 => by
      rw [te (8 * p + q) (by omega) (by omega)]
      exact r p q p1 p2 q1 q2)
  | succ m ih =>
    intro a Mb ha hac hP hM hc2 hL hko h17 K E
    obtain ⟨X, hX⟩ : ∃ X, tn Mb (64 * (a + 1)) = X := ⟨_, rfl⟩
    rw [hX] at hL K E
    obtain ⟨i0, hi0⟩ : ∃ i0, ld Mb 101 a = i0 := ⟨_, rfl⟩
    obtain ⟨c0, hc0⟩ : ∃ c0, ld Mb 102 a = c0 := ⟨_, rfl⟩
    have hi : 0 ≤ i0 ∧ i0 < c0 ∧ c0 < n := by
      have w := hP.1 a ha (by omega)
      omega
    have sg : ∀ p q : Int, 0 ≤ p → p < q → q < n → 8 * p + q < 8 * i0 + c0 → ∃ b : Int, (0 ≤ b ∧ b < 8) ∧ X (8 * p + q) = yshl 1 b := fun p q p1 p2 p3 w => hL.sg hP ⟨ha, by omega⟩ p q p1 p2 p3 (by unfold pl; omega)
    have hL' := hL
    obtain ⟨sn, cl, ne, dg, sp⟩ := hL
    have sX := (sn i0 c0 hi.1 (by omega) (by omega) hi.2.2 (by omega)).1
    have inner : ∀ (r : Nat) (M : yM), k - 1 - ld M 103 a = r → fr (wDp a) Mb M → -1 ≤ ld M 103 a → FLQ T f k n (PA T f k n X i0 c0 (ld M 103 a + 1)) X Mb M → ld M 92 17 ≤ x1 → ∀ w3 w4 w5 : Option yV, XW kX12_fills (d + 4) none (wQv Q) 129 [some (.inr (.inr 92)), some (.inl x1), some (.inl a), w3, w4, w5] [] M := by
      intro r
      induction r using Nat.strongRecOn with
      | ind r ihr =>
        intro M hr fM hlo hq hle w3 w4 w5
        have hMM : MCT M T f k n := hM.fr fM (by unfold wDp; omega) (by unfold wDp; omega) (fun _ => by unfold wDp; omega) (fun _ => by unfold wDp; omega)
        have k2 := hMM.1
        have k15 : ld M 92 15 = c := by rw [fM.ld (by unfold wDp; omega)]; exact hc2
        have k101 : ld M 101 a = i0 := by rw [fM.ld (by unfold wDp; omega)]; exact hi0
        have k102 : ld M 102 a = c0 := by rw [fM.ld (by unfold wDp; omega)]; exact hc0
        have xM : tn M (64 * (a + 1)) = X := by
          rw [← hX]
          exact tn_eq (nr_fe fM (fun j a1 a2 => by unfold wDp; omega))
        refine uX12_fills_129 (by omega) (fun _ => by omega) (fun _ => ?_)
        refine uX12_fills_133 hx1r (fun hge => uX12_fills_324 (E _ fM (FLE.of hk1 hn2 hx1.1 hq (fun _ _ q => q.1) (by omega) h17.1))) (fun hlt => ?_)
        refine uX12_fills_141 (by omega) (fun _ => ?_) (fun _ => by omega)
        refine uX12_fills_167 (by omega) (by omega) (by omega) (by omega) ?_
        have e5 : ld M 100 (64 * (a + 1) + 8 * ld M 101 a + ld M 102 a) = X (8 * i0 + c0) := by
          rw [k101, k102, ← tn_at (M := M) (o := 64 * (a + 1)) (i := i0) (c := c0) (by omega) (by omega), xM]
        rw [e5]
        have cont : ∀ x4 : Int, ld M 103 a < x4 → x4 ≤ k → (x4 < k → bt (X (8 * i0 + c0)) x4.toNat = true) → (∀ κ, KV k n κ → (PA T f k n X i0 c0 (ld M 103 a + 1) κ ↔ PA T f k n X i0 c0 x4 κ)) → XW kX12_fills (d + 4) none (wQv Q) 227 [some (.inr (.inr 92)), some (.inl x1), some (.inl a), some (.inl (64 * (a + 1))), some (.inl x4), some (.inl (X (8 * i0 + c0)))] [] M := by
          intro x4 h4 h5 hbit hpa
          refine uX12_fills_227 (by omega) ?_
          intro M1 e1
          have f1 : fr (wDp a) Mb M1 := fM.put e1 (by unfold wDp; omega)
          have fM1 : fr (fun o j => o = 103 ∧ j = a) M M1 := fr.put fr.rf e1 ⟨rfl, rfl⟩
          have hM1 : MCT M1 T f k n := hMM.fr fM1 (by omega) (by omega) (fun _ => by omega) (fun _ => by omega)
          have q2 := hM1.1
          have q103 : ld M1 103 a = x4 := by rw [e1]; exact ld_same (by omega)
          have q1 := (hq.cg hk1 hn2 hpa).mv (SFq.of fM1 (by omega) (fun _ => by omega) (fun _ => by omega))
          have q17 : ld M1 92 17 = ld M 92 17 := fM1.ld (by omega)
          have x1M : tn M1 (64 * (a + 1)) = X := by
            rw [← xM]
            exact tn_eq (nr_fe fM1 (fun j a1 a2 => by omega))
          refine uX12_fills_235 (by omega) (fun hne => ?_) (fun heq => uX12_fills_244 (uX12_fills_321 (K _ _ _ _ f1 (q1.cg hk1 hn2 (fun κ v => pa_k hi (by omega) v)) (by omega))))
          have kk : 0 ≤ x4 ∧ x4 < k := by omega
          have hb := hbit kk.2
          refine uX12_fills_250 ?_
          refine c12_copies (by omega) (fun M2 f2 hcp => ?_)
          refine uX12_fills_259 (by omega) (by omega) ?_
          have r101 : ld M2 101 a = i0 := by rw [f2.ld (by omega), fM1.ld (by omega)]; exact k101
          have r102 : ld M2 102 a = c0 := by rw [f2.ld (by omega), fM1.ld (by omega)]; exact k102
          have hM2 : MCT M2 T f k n := hM1.fr f2 (by omega) (by omega) (fun _ => by omega) (fun _ => by omega)
          have x2M : tn M2 (64 * (a + 1) + 64) = X := by
            rw [← x1M]
            exact tn_eq2 (nr_cp hcp)
          have r2 := hM2.1
          refine XC.deep (c12_puts (d := 0) (by omega) (by omega) (by omega) (fun M3 f3 hpt => ?_)) (by omega)
          rw [r101, r102, hM2.1, hM2.2.2.2.1] at hpt
          rw [r101, r102] at f3
          have hM3 : MCT M3 T f k n := hM2.fr f3 (by omega) (by omega) (fun _ => by omega) (fun _ => by omega)
          have x3M : tn M3 (64 * (a + 1) + 64) = sng f k X i0 c0 x4 := by
            rw [tn_up (nr_up (rng_yshl _ _) (tOf_rng _ _ _) hpt) (by omega) (by omega), x2M]
            rfl
          have s3 : SN f k n (tn M3 (64 * (a + 1) + 64)) := by rw [x3M]; exact sng_sn sn hk hT.2.1 hn2 hi kk
          have d3 : DGp n (tn M3 (64 * (a + 1) + 64)) := by
            rw [x3M]
            exact DGp.up hn2 (fun p p1 p2 => by rw [dg p p1 p2]; decide) (by omega) (by omega) (by omega)
          refine uX12_fills_283 ?_
          refine XC.deep (n12_fully (d := 0) hM3 (by omega) (s3.eq hn2 tn_e) (DGp.eq hn2 d3 tn_e) (fun v M4 f4 e4 s4 g4 => ?_)) (by omega)
          have hM4 : MCT M4 T f k n := hM3.fr f4 (by omega) (by omega) (fun _ => by omega) (fun _ => by omega)
          have x4M : tn M4 (64 * (a + 1) + 64) = fullP T f k n (sng f k X i0 c0 x4) := by
            rw [← x3M]
            exact tn_full hk hT.2.1 (by omega) e4 s3
          refine uX12_fills_291 ?_
          refine n12_isEmpty hM4 (by omega) s4 g4 (fun v2 hv2 => ?_)
          rw [← emB_eq (tn_e (M := M4) (o := 64 * (a + 1) + 64)), x4M] at hv2
          have fall : fr (fun o j => o = 100 ∧ 64 * (a + 2) ≤ j) M1 M4 := fun o j hw => by
            have h2 := f2 o j (fun q => hw (by omega))
            have h3 := f3 o j (fun q => hw (by omega))
            have h4 := f4 o j (fun q => hw (by omega))
            exact ⟨by rw [h4.1, h3.1, h2.1], by rw [h4.2, h3.2, h2.2]⟩
          have f14 : fr (wDp a) Mb M4 := f1.tr fall (fun o j hw => by unfold wDp; omega)
          have t103 : ld M4 103 a = x4 := by rw [fall.ld (by omega)]; exact q103
          have t17 : ld M4 92 17 = ld M1 92 17 := fall.ld (by omega)
          have z17 : 0 ≤ ld M1 92 17 := by
            have w1 := q1.1
            have w2 := ct_nn (p := PA T f k n X i0 c0 x4) (UV k n)
            have w3 := h17.1
            omega
          have t15 : ld M4 92 15 = c := by rw [fall.ld (by omega), fM1.ld (by omega)]; exact k15
          have sf4 : SFq M1 M4 := SFq.of fall (by omega) (fun _ => by omega) (fun _ => by omega)
          have sng_ := sng_sn sn hk hT.2.1 hn2 hi kk
          have fg := full_good hT (by omega : 0 ≤ n ∧ n ≤ 8) sng_
          have pas := fun κ (v : KV k n κ) => pa_s hT hn2 sn hi kk hb v
          refine uX12_fills_300 (by omega) (fun hne2 => ?_) (fun h0 => ?_)
          · refine uX12_fills_321 ?_
            have ng : ¬ Good T f k n (sng f k X i0 c0 x4) := fun q => by
              have w := fg.mpr q
              rw [hv2.elim (fun z => z.2) (fun z => absurd z.1 hne2)] at w
              cases w
            refine ihr (k - 1 - x4).toNat (by omega) M4 (by omega) f14 (by omega) ?_ (by omega) _ _ _
            rw [t103]
            exact (q1.cg hk1 hn2 (fun κ v => ⟨fun q => (pas κ v).1.mpr (Or.inl q), fun q => ((pas κ v).1.mp q).elim (fun q => q) (fun q => absurd q (fl_no hT hn2 ng v))⟩)).mv sf4
          · have he : emB n (fullP T f k n (sng f k X i0 c0 x4)) = false := hv2.elim (fun z => absurd z.1 (by omega)) (fun z => z.2)
            obtain ⟨Y, hY⟩ : ∃ Y, fullP T f k n (sng f k X i0 c0 x4) = Y := ⟨_, rfl⟩
            rw [hY] at he x4M
            have sY : SN f k n Y := by rw [← hY]; exact fullP_sn hk hT.2.1 (by omega) sng_
            have cY : Cl T k n Y := fx_cl hT (by omega) sY (by rw [← hY]; exact fullP_fix hk hT.2.1 (by omega) sng_) he
            have nY : Ne n Y := (emB_ne hk hT.2.1 hn2 sY).mp he
            have bY := fu_sb hT (by omega : 0 ≤ n ∧ n ≤ 8) 300 (sng f k X i0 c0 x4) sng_
            have bY1 : Sb n Y (sng f k X i0 c0 x4) := by rw [← hY]; exact bY.1
            have eY : ∀ κ, KV k n κ → (Fl T f k n Y κ ↔ Fl T f k n (sng f k X i0 c0 x4) κ) := fun κ v => by
              have snk := nK_sn hk hT.2.1 hn2 v
              exact ⟨fun q => ⟨Sb.tr hk snk q.1 bY1, q.2⟩, fun q => ⟨by rw [← hY]; exact bY.2 _ snk q.2 q.1, q.2⟩⟩
            have dY : ∀ d : Int, 0 ≤ d → d < n → Y (8 * d + d) = 1 := fun d d1 d2 => by
              rw [← hY, fullP_dg (by omega) (by omega)]
              unfold sng
              rw [up2_at (by omega) (by omega) (by omega) (by omega), if_neg (by omega), if_neg (by omega)]
              exact dg d d1 d2
            have plb : ∀ p, pl Mb p = pl M4 p := fun p => by
              unfold pl
              rw [f14.ld (by unfold wDp; omega), f14.ld (by unfold wDp; omega)]
            have one1 : ∀ p q b : Int, 0 ≤ p → p < q → q < n → (0 ≤ b ∧ b < 8) → sng f k X i0 c0 x4 (8 * p + q) = yshl 1 b → Y (8 * p + q) = yshl 1 b := fun p q b p1 p2 p3 hb e => by
              have s := bY1 p q p1 (by omega) (by omega) p3 (by omega)
              rw [e] at s
              exact sub_1 ((sY p q p1 (by omega) (by omega) p3 (by omega)).1.y hk) (nY p q p1 (by omega) (by omega) p3 (by omega)) hb s
            have lY : LVM T f k n M4 (a + 1) Y := ⟨sY, cY, nY, dY, fun p p1 p2 => by
              rw [← plb]
              have w := hP.1 p p1 (by omega)
              by_cases e : p = a
              · subst e
                refine ⟨x4, by omega, ?_⟩
                unfold pl
                rw [hi0, hc0]
                refine one1 i0 c0 x4 hi.1 hi.2.1 hi.2.2 (by omega) ?_
                unfold sng
                rw [up2_at (by omega) (by omega) (by omega) (by omega), if_neg (by omega), if_pos ⟨rfl, rfl⟩]
              · obtain ⟨b, b1, b2⟩ := sp p p1 (by omega)
                refine ⟨b, b1, ?_⟩
                have o := hP.2.2.choose_spec.1 p a p1 (by omega) (by omega)
                unfold pl at o b2 ⊢
                refine one1 _ _ b w.1 w.2.1 w.2.2 b1 ?_
                unfold sng
                rw [up2_at (by omega) (by omega) (by omega) (by omega), if_neg (by omega), if_neg (by omega)]
                exact b2⟩
            have hP4 : PRX M4 c n := hP.fr f14 (fun j => ⟨by unfold wDp; omega, by unfold wDp; omega⟩)
            have xo : 64 * (a + 1 + 1) = 64 * (a + 1) + 64 := by omega
            refine uX12_fills_303 (by omega) (fun hge => ?_) (fun hlt2 => ?_)
            · refine uX12_fills_321 ?_
              refine ih (a + 1) M4 (by omega) (by omega) hP4 hM4 t15 (by rw [xo, x4M]; exact lY) (fun hx => absurd hx (by omega)) (by omega) (fun M' v3 v4 v5 h hqq hll => ?_) (fun M' h hee => E M' (f14.tr h (wDp_up (by omega))) (FLE.st hT hn2 sn hi kk hb eY sg h17.1 q1 sf4 (by rw [xo, x4M] at hee; exact hee))) _ _ _
              rw [show a + 1 - 1 = a by omega]
              have u103 : ld M' 103 a = x4 := by rw [h.ld (by unfold wDp; omega)]; exact t103
              refine ihr (k - 1 - x4).toNat (by omega) M' (by omega) (f14.tr h (wDp_up (by omega))) (by omega) ?_ hll _ _ _
              rw [u103]
              exact FLQ.st hT hn2 sn hi kk hb eY sg h17.1 q1 sf4 (by rw [xo, x4M] at hqq; exact hqq)
            · refine uX12_fills_314 (by omega) ?_
              intro M5 e5
              have f5 : fr (wDp (a + 1)) M4 M5 := fr.put fr.rf e5 (by unfold wDp; omega)
              have fk5 : fr (fun o j => o = 103) M4 M5 := fr.put fr.rf e5 rfl
              have sf5 : SFq M1 M5 := sf4.tr (SFq.of fk5 (by omega) (fun _ => by omega) (fun _ => by omega))
              have x5M : tn M5 (64 * (a + 1) + 64) = Y := by
                rw [← x4M]
                exact tn_eq (nr_fe fk5 (fun j a1 a2 => by omega))
              have pl5 : ∀ p, pl M4 p = pl M5 p := fun p => by
                unfold pl
                rw [fk5.ld (by omega), fk5.ld (by omega)]
              refine uX12_fills_321 ?_
              refine ih (a + 1) M5 (by omega) (by omega) (hP4.fr fk5 (fun j => ⟨by omega, by omega⟩)) (hM4.fr fk5 (by omega) (by omega) (fun _ => by omega) (fun _ => by omega)) (by rw [fk5.ld (by omega)]; exact t15) (by rw [xo, x5M]; exact ⟨lY.1, lY.2.1, lY.2.2.1, lY.2.2.2.1, fun p p1 p2 => by rw [← pl5]; exact lY.2.2.2.2 p p1 p2⟩) (fun _ => by rw [e5, ld_same (by omega)]) (by rw [fk5.ld (by omega)]; omega) (fun M' v3 v4 v5 h hqq hll => ?_) (fun M' h hee => E M' ((f14.tr f5 (wDp_up (by omega))).tr h (wDp_up (by omega))) (FLE.st hT hn2 sn hi kk hb eY sg h17.1 q1 sf5 (by rw [xo, x5M] at hee; exact hee))) _ _ _
              rw [show a + 1 - 1 = a by omega]
              have u103 : ld M' 103 a = x4 := by rw [h.ld (by unfold wDp; omega), f5.ld (by unfold wDp; omega)]; exact t103
              refine ihr (k - 1 - x4).toNat (by omega) M' (by omega) ((f14.tr f5 (wDp_up (by omega))).tr h (wDp_up (by omega))) (by omega) ?_ hll _ _ _
              rw [u103]
              exact FLQ.st hT hn2 sn hi kk hb eY sg h17.1 q1 sf5 (by rw [xo, x5M] at hqq; exact hqq)
        have scan : ∀ (s : Nat) (x4 : Int), x4 + s = k → ld M 103 a < x4 → (∀ κ, KV k n κ → (PA T f k n X i0 c0 (ld M 103 a + 1) κ ↔ PA T f k n X i0 c0 x4 κ)) → XW kX12_fills (d + 4) none (wQv Q) 202 [some (.inr (.inr 92)), some (.inl x1), some (.inl a), some (.inl (64 * (a + 1))), some (.inl x4), some (.inl (X (8 * i0 + c0)))] [] M := by
          intro s
          induction s with
          | zero =>
            intro x4 h1 h2 h3
            exact uX12_fills_202 (by omega) (fun _ => cont x4 h2 (by omega) (fun w => by omega) h3) (fun _ => by omega)
          | succ s ihs =>
            intro x4 h1 h2 h3
            have yb := ybitZ (a := X (8 * i0 + c0)) (x := x4) (by omega) (by omega)
            have y01 := yand01 (yshr (X (8 * i0 + c0)) x4)
            refine uX12_fills_202 (by omega) (fun _ => by omega) (fun _ => ?_)
            refine uX12_fills_211 (fun hb => cont x4 h2 (by omega) (fun _ => yb.mp (by omega)) h3) (fun hb => ?_)
            refine uX12_fills_221 ?_
            exact ihs (x4 + 1) (by omega) (by omega) (fun κ v => (h3 κ v).trans (pa_n hT hn2 sn hi (by omega) (fun q => by have := yb.mpr q; omega) v).symm)
        by_cases z : ld M 103 a + 1 ≤ k
        · exact scan (k - (ld M 103 a + 1)).toNat (ld M 103 a + 1) (by omega) (by omega) (fun _ _ => Iff.rfl)
        · exfalso
          omega
    intro w3 w4 w5
    have h1 := hko (by omega)
    refine inner (k - 1 - ld Mb 103 a).toNat Mb (by omega) fr.rf (by omega) ?_ h17.2 w3 w4 w5
    rw [h1]
    exact FLQ.z hk1 hn2 (fun κ v => pa_0 hi v) (SFq.rf _)
