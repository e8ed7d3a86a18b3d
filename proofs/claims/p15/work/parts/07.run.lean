/-! A RUN OF THE ABSTRACT MACHINE OVER THE MACHINE -/
theorem xii_h {S : List Value} {pc : Nat} {L : xL} {h : xH} {f : Int32 → Int32 → Int32} {pc' : Nat} {L' : xL} {S' : List Value} {h' : xH} (hst : xii S pc L h f = some (.inl (pc', L', S', h'))) : h' = h := by
  unfold xii at hst
  repeat' split at hst
  all_goals first | exact (xgo_inj hst).2.2.2.symm | cases hst
theorem xdd_h {S : List Value} {pc : Nat} {L : xL} {h : xH} {f : Int32 → Int32 → Int32} {pc' : Nat} {L' : xL} {S' : List Value} {h' : xH} (hst : xdd S pc L h f = some (.inl (pc', L', S', h'))) : h' = h := by
  unfold xdd at hst
  repeat' split at hst
  all_goals first | exact (xgo_inj hst).2.2.2.symm | cases hst
theorem xll_h {S : List Value} {pc : Nat} {L : xL} {h : xH} {f : Int64 → Int64 → Int64} {pc' : Nat} {L' : xL} {S' : List Value} {h' : xH} (hst : xll S pc L h f = some (.inl (pc', L', S', h'))) : h' = h := by
  unfold xll at hst
  repeat' split at hst
  all_goals first | exact (xgo_inj hst).2.2.2.symm | cases hst
theorem xli_h {S : List Value} {pc : Nat} {L : xL} {h : xH} {f : Int64 → Int32 → Int64} {pc' : Nat} {L' : xL} {S' : List Value} {h' : xH} (hst : xli S pc L h f = some (.inl (pc', L', S', h'))) : h' = h := by
  unfold xli at hst
  repeat' split at hst
  all_goals first | exact (xgo_inj hst).2.2.2.symm | cases hst
theorem xif_h {S : List Value} {pc : Nat} {L : xL} {h : xH} {tgt : Nat} {f : Int32 → Bool} {pc' : Nat} {L' : xL} {S' : List Value} {h' : xH} (hst : xif S pc tgt L h f = some (.inl (pc', L', S', h'))) : h' = h := by
  unfold xif at hst
  repeat' split at hst
  all_goals first | exact (xgo_inj hst).2.2.2.symm | cases hst
theorem xcm_h {S : List Value} {pc : Nat} {L : xL} {h : xH} {tgt : Nat} {f : Int32 → Int32 → Bool} {pc' : Nat} {L' : xL} {S' : List Value} {h' : xH} (hst : xcm S pc tgt L h f = some (.inl (pc', L', S', h'))) : h' = h := by
  unfold xcm at hst
  repeat' split at hst
  all_goals first | exact (xgo_inj hst).2.2.2.symm | cases hst
theorem xild_h {S : List Value} {pc : Nat} {L : xL} {h : xH} {a : Nat} {pc' : Nat} {L' : xL} {S' : List Value} {h' : xH} (hst : xild L a pc S h = some (.inl (pc', L', S', h'))) : h' = h := by
  unfold xild at hst
  repeat' split at hst
  all_goals first | exact (xgo_inj hst).2.2.2.symm | cases hst
theorem xald_h {S : List Value} {pc : Nat} {L : xL} {h : xH} {a : Nat} {pc' : Nat} {L' : xL} {S' : List Value} {h' : xH} (hst : xald L a pc S h = some (.inl (pc', L', S', h'))) : h' = h := by
  unfold xald at hst
  repeat' split at hst
  all_goals first | exact (xgo_inj hst).2.2.2.symm | cases hst
theorem xlld_h {S : List Value} {pc : Nat} {L : xL} {h : xH} {a : Nat} {pc' : Nat} {L' : xL} {S' : List Value} {h' : xH} (hst : xlld L a pc S h = some (.inl (pc', L', S', h'))) : h' = h := by
  unfold xlld at hst
  repeat' split at hst
  all_goals first | exact (xgo_inj hst).2.2.2.symm | cases hst
theorem xist_h {S : List Value} {pc : Nat} {L : xL} {h : xH} {a : Nat} {pc' : Nat} {L' : xL} {S' : List Value} {h' : xH} (hst : xist L a pc S h = some (.inl (pc', L', S', h'))) : h' = h := by
  unfold xist at hst
  repeat' split at hst
  all_goals first | exact (xgo_inj hst).2.2.2.symm | cases hst
theorem xast_h {S : List Value} {pc : Nat} {L : xL} {h : xH} {a : Nat} {pc' : Nat} {L' : xL} {S' : List Value} {h' : xH} (hst : xast L a pc S h = some (.inl (pc', L', S', h'))) : h' = h := by
  unfold xast at hst
  repeat' split at hst
  all_goals first | exact (xgo_inj hst).2.2.2.symm | cases hst
theorem xlst_h {S : List Value} {pc : Nat} {L : xL} {h : xH} {a : Nat} {pc' : Nat} {L' : xL} {S' : List Value} {h' : xH} (hst : xlst L a pc S h = some (.inl (pc', L', S', h'))) : h' = h := by
  unfold xlst at hst
  repeat' split at hst
  all_goals first | exact (xgo_inj hst).2.2.2.symm | cases hst
theorem xinc_h {S : List Value} {pc : Nat} {L : xL} {h : xH} {a : Nat} {v : Value} {pc' : Nat} {L' : xL} {S' : List Value} {h' : xH} (hst : xinc L a v pc S h = some (.inl (pc', L', S', h'))) : h' = h := by
  unfold xinc at hst
  repeat' split at hst
  all_goals first | exact (xgo_inj hst).2.2.2.symm | cases hst
theorem xget_h {S : List Value} {pc : Nat} {L : xL} {h : xH} {ci k : Nat} {pc' : Nat} {L' : xL} {S' : List Value} {h' : xH} (hst : xget ci k pc L S h = some (.inl (pc', L', S', h'))) : h' = h := by
  unfold xget at hst
  repeat' split at hst
  all_goals first | exact (xgo_inj hst).2.2.2.symm | cases hst
theorem xaldI_h {S : List Value} {pc : Nat} {L : xL} {h : xH} {kd : Nat} {pc' : Nat} {L' : xL} {S' : List Value} {h' : xH} (hst : xaldI kd pc L S h = some (.inl (pc', L', S', h'))) : h' = h := by
  unfold xaldI at hst
  repeat' split at hst
  all_goals first | exact (xgo_inj hst).2.2.2.symm | cases hst
theorem xaldL_h {S : List Value} {pc : Nat} {L : xL} {h : xH} {pc' : Nat} {L' : xL} {S' : List Value} {h' : xH} (hst : xaldL pc L S h = some (.inl (pc', L', S', h'))) : h' = h := by
  unfold xaldL at hst
  repeat' split at hst
  all_goals first | exact (xgo_inj hst).2.2.2.symm | cases hst
theorem xaldA_h {S : List Value} {pc : Nat} {L : xL} {h : xH} {pc' : Nat} {L' : xL} {S' : List Value} {h' : xH} (hst : xaldA pc L S h = some (.inl (pc', L', S', h'))) : h' = h := by
  unfold xaldA at hst
  repeat' split at hst
  all_goals first | exact (xgo_inj hst).2.2.2.symm | cases hst
theorem xlen_h {S : List Value} {pc : Nat} {L : xL} {h : xH} {pc' : Nat} {L' : xL} {S' : List Value} {h' : xH} (hst : xlen pc L S h = some (.inl (pc', L', S', h'))) : h' = h := by
  unfold xlen at hst
  repeat' split at hst
  all_goals first | exact (xgo_inj hst).2.2.2.symm | cases hst
/-- a heap grows: no fewer objects, no fewer places -/
def xge (h h' : xH) : Prop := h.length ≤ h'.length ∧ xz h ≤ xz h'
theorem xge.rf (h : xH) : xge h h := ⟨Nat.le_refl _, Nat.le_refl _⟩
theorem xge.eq {h h' : xH} (e : h' = h) : xge h h' := e ▸ xge.rf h
theorem xge.tr {a b c : xH} (h1 : xge a b) (h2 : xge b c) : xge a c := ⟨Nat.le_trans h1.1 h2.1, Nat.le_trans h1.2 h2.2⟩
theorem xge.set {h : xH} {i : Nat} {o o' : xO} (hi : h[i]? = some o) (ho : xsz o' = xsz o) : xge h (h.set i o') := ⟨by rw [List.length_set]; exact Nat.le_refl _, by rw [xz_set hi ho]; exact Nat.le_refl _⟩
theorem xge.push (h : xH) (o : xO) : xge h (h ++ [o]) := ⟨by simp, by rw [xz_push]; omega⟩
theorem xge.rep (h : xH) (o : xO) (n : Nat) : xge h (h ++ List.replicate n o) := ⟨by simp, by rw [xz_rep]; omega⟩
theorem xput_g {S : List Value} {pc : Nat} {L : xL} {h : xH} {ty : FieldType} {ci k : Nat} {pc' : Nat} {L' : xL} {S' : List Value} {h' : xH} (hst : xput ty ci k pc L S h = some (.inl (pc', L', S', h'))) : xge h h' := by
  unfold xput at hst
  repeat' split at hst
  all_goals first | (cases hst; done) | (obtain ⟨-, -, -, rfl⟩ := xgo_inj hst; exact xge.set (by assumption) (by simp [xsz]))
theorem xastI_g {S : List Value} {pc : Nat} {L : xL} {h : xH} {kd : Nat} {pc' : Nat} {L' : xL} {S' : List Value} {h' : xH} (hst : xastI kd pc L S h = some (.inl (pc', L', S', h'))) : xge h h' := by
  unfold xastI at hst
  repeat' split at hst
  all_goals first | (cases hst; done) | (obtain ⟨-, -, -, rfl⟩ := xgo_inj hst; exact (by apply xge.set <;> first | assumption | rfl))
theorem xastL_g {S : List Value} {pc : Nat} {L : xL} {h : xH} {pc' : Nat} {L' : xL} {S' : List Value} {h' : xH} (hst : xastL pc L S h = some (.inl (pc', L', S', h'))) : xge h h' := by
  unfold xastL at hst
  repeat' split at hst
  all_goals first | (cases hst; done) | (obtain ⟨-, -, -, rfl⟩ := xgo_inj hst; exact (by apply xge.set <;> first | assumption | rfl))
theorem xastA_g {S : List Value} {pc : Nat} {L : xL} {h : xH} {ci : Nat} {pc' : Nat} {L' : xL} {S' : List Value} {h' : xH} (hst : xastA ci pc L S h = some (.inl (pc', L', S', h'))) : xge h h' := by
  unfold xastA at hst
  repeat' split at hst
  all_goals first | (cases hst; done) | (obtain ⟨-, -, -, rfl⟩ := xgo_inj hst; exact (by apply xge.set <;> first | assumption | rfl))
theorem xcpy_g {S : List Value} {pc : Nat} {L : xL} {h : xH} {pc' : Nat} {L' : xL} {S' : List Value} {h' : xH} (hst : xcpy pc L S h = some (.inl (pc', L', S', h'))) : xge h h' := by
  unfold xcpy at hst
  repeat' split at hst
  all_goals first | (cases hst; done) | (obtain ⟨-, -, -, rfl⟩ := xgo_inj hst; exact (by apply xge.set <;> first | assumption | rfl))
theorem xmm_g {S : List Value} {pc : Nat} {L : xL} {h : xH} {kn : Nat} {pc' : Nat} {L' : xL} {S' : List Value} {h' : xH} (hst : xmm kn pc L S h = some (.inl (pc', L', S', h'))) : xge h h' := by
  unfold xmm at hst
  split at hst
  · split at hst
    · exact xge.eq (xgo_inj hst).2.2.2.symm
    · cases hst
  · cases hst
theorem xnewA_g {S : List Value} {pc : Nat} {L : xL} {h : xH} {kd : Nat} {z : vp_A} {pc' : Nat} {L' : xL} {S' : List Value} {h' : xH} (hst : xnewA kd pc z L S h = some (.inl (pc', L', S', h'))) : xge h h' := by
  unfold xnewA at hst
  repeat' split at hst
  all_goals first | (cases hst; done) | (obtain ⟨-, -, -, rfl⟩ := xgo_inj hst; exact xge.push _ _)
theorem xnewM_g {S : List Value} {pc : Nat} {L : xL} {h : xH} {pc' : Nat} {L' : xL} {S' : List Value} {h' : xH} (hst : xnewM pc L S h = some (.inl (pc', L', S', h'))) : xge h h' := by
  unfold xnewM at hst
  repeat' split at hst
  all_goals first | (cases hst; done) | (obtain ⟨-, -, -, rfl⟩ := xgo_inj hst; exact xge.tr (xge.push _ _) (xge.rep _ _ _))
theorem xcall_h {k n r pc : Nat} {S : List Value} {t : Nat × xL × List Value × xH} (hst : xcall k n r pc S = some (.inl t)) : False := by
  unfold xcall at hst
  split at hst <;> cases hst
set_option maxHeartbeats 4000000 in
theorem xdo_g {ty : xT} {pc len : Nat} {a : xA} {ins : Jvm.ClassFile.Instr} {L : xL} {S : List Value} {h : xH} {pc' : Nat} {L' : xL} {S' : List Value} {h' : xH} (hst : xdo ty pc len a ins L S h = some (.inl (pc', L', S', h'))) : xge h h' := by
  unfold xdo at hst
  split at hst
  all_goals first
    | (cases hst; done)
    | exact xge.eq (xgo_inj hst).2.2.2.symm
    | exact xge.eq (xild_h hst)
    | exact xge.eq (xald_h hst)
    | exact xge.eq (xlld_h hst)
    | exact xge.eq (xist_h hst)
    | exact xge.eq (xast_h hst)
    | exact xge.eq (xlst_h hst)
    | exact xge.eq (xinc_h hst)
    | exact xge.eq (xii_h hst)
    | exact xge.eq (xdd_h hst)
    | exact xge.eq (xll_h hst)
    | exact xge.eq (xli_h hst)
    | exact xge.eq (xif_h hst)
    | exact xge.eq (xcm_h hst)
    | exact xge.eq (xget_h hst)
    | exact xge.eq (xaldI_h hst)
    | exact xge.eq (xaldL_h hst)
    | exact xge.eq (xaldA_h hst)
    | exact xge.eq (xlen_h hst)
    | exact xput_g hst
    | exact xastI_g hst
    | exact xastL_g hst
    | exact xastA_g hst
    | exact xnewA_g hst
    | exact xnewM_g hst
    | exact (xcall_h hst).elim
    | (obtain ⟨-, -, -, rfl⟩ := xgo_inj hst; exact xge.push _ _)
    | skip
  all_goals (repeat' split at hst)
  all_goals first
    | (cases hst; done)
    | exact xge.eq (xgo_inj hst).2.2.2.symm
    | exact xcpy_g hst
    | exact xmm_g hst
    | exact (xcall_h hst).elim
theorem xrun_g {ty : xT} {P : List xM} : ∀ (n d : Nat) (C : xC) (pc : Nat) (L : xL) (S : List Value) (h : xH) (r : Option Value) (h' : xH), xrun ty P n d C pc L S h = some (r, h') → xge h h' := by
  intro n
  induction n with
  | zero => intro d C pc L S h r h' hr; cases hr
  | succ n ih =>
    intro d C pc L S h r h' hr
    unfold xrun at hr
    split at hr
    · cases hr
    · split at hr
      · injection hr with hr; injection hr with h1 h2; exact xge.eq h2.symm
      · split at hr
        · split at hr
          · cases hr
          · split at hr
            · cases hx : (xrcv _ _ _ && _) with
              | false => rw [hx, cond_false] at hr; cases hr
              | true =>
                rw [hx, cond_true] at hr
                split at hr
                · cases hr
                · next r1 h1 hr1 =>
                  have g1 := ih _ _ _ _ _ _ _ _ hr1
                  cases hy : xret _ r1 with
                  | false => rw [hy, cond_false] at hr; cases hr
                  | true =>
                    rw [hy, cond_true] at hr
                    exact xge.tr g1 (ih _ _ _ _ _ _ _ _ hr)
            · cases hr
        · split at hr
          · next hst => exact xge.tr (xdo_g hst) (ih _ _ _ _ _ _ _ _ hr)
          · cases hr
