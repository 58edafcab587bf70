/-! ===== the advice ===== -/
def CIn (c : Nat) (C : CS) : Prop := C.1 = 0 ∨ ∃ s t, s < c ∧ t < c ∧ C.2.1 = nI s ∧ C.2.2.1 = nI t
theorem CIn_off {c s t : Nat} {C : CS} (h : CIn c C) (hs : s < c) (ht : t < c) (z : Int32) : CIn c (offS C (nI s) (nI t) z) := by
  unfold offS
  split
  · exact Or.inr ⟨s, t, hs, ht, rfl, rfl⟩
  · exact h
theorem CIn_in {cp w ar : FI} {a bf : Int32} {c s : Nat} (hs : s < c) {C : CS} (h : CIn c C) : ∀ t, t ≤ c → CIn c (tIn cp w ar a bf s C t)
  | 0, _ => h
  | t + 1, ht => by
    unfold tIn
    split
    · exact CIn_off (CIn_in hs h t (by omega)) hs (by omega) _
    · exact CIn_in hs h t (by omega)
theorem CIn_out {cp w ar : FI} {a bf : Int32} {c : Nat} {C : CS} (h : CIn c C) : ∀ s, s ≤ c → CIn c (tOut cp w ar a bf c C s)
  | 0, _ => h
  | s + 1, hs => by
    unfold tOut
    exact CIn_in (by omega) (CIn_out h s (by omega)) c (Nat.le_refl _)
abbrev bS (S : SH) (a bf : Int32) (C : CS) : CS := bstT (gcp S) (gw S) (gar S) (gc S) a bf C
theorem CIn_bst (S : SH) (a bf : Int32) (C : CS) : CIn (gc S) (bS S a bf C) := CIn_out (Or.inl rfl) _ (Nat.le_refl _)
theorem ite_scr {p : Prop} [Decidable p] (K : KS') (C : CS) : world (if p then stC K C else K) = world (scr K (kT K) (if p then C else kC K)) := by
  split <;> rfl
def fBT (S : SH) (a : Int32) (C : CS) : Nat := if fAmt a = 0 then (if (bS S a (tmI S) C).1 = 0 then 4 else 0) else fAmt a
theorem fBT_0 {S : SH} {a : Int32} {C : CS} (h : fBT S a C = 0) : fAmt a = 0 := by
  unfold fBT at h
  split at h
  · assumption
  · exact h
theorem s_findBestTransfer (K : KS') (hK : WK K) (a : Int32) : Sp 7 2 12 mX10_findBestTransfer [vR 0 0, vI a] (world K) (PoF (fBT (kS K) a (kC K)) none (world (if fAmt a = 0 then stC K (bS (kS K) a (tmI (kS K)) (kC K)) else K))) := by
  refine Sp.of' false (fun h => by cases h) (by decide) rfl rfl (Nat.le_of_ble_eq_true rfl) fun γ σ B => ?_
  refine B.run okX10_findBestTransfer [] 60 ?_
  refine At.cSA [] [vI a] [] B.1 (s_fAmt a) kX10_faultOfAmount ln_X10_123 trivial (B.fit (by decide) (by decide) (by decide)) (dcS okX10_findBestTransfer rfl) ?_
  show At γ σ 0 0 4 [(0, vR 0 0), (1, vI a)] [vK (fAmt a)] (world K)
  refine At.fS [] [vK (fAmt a)] [] B.1 B.2.1 (s_refuse _ (fAmt_i a)) kX10_refuse ln_X10_57 trivial (B.fit (by decide) (by decide) (by decide)) (by decide) (by decide) (dcS okX10_findBestTransfer rfl) (fun h0 => ?_) (fun h0 => PoF_n (m := fAmt a) (by unfold fBT; exact if_neg h0) h0 rfl (by rw [if_neg h0]; rfl))
  have e0 : (if fAmt a = 0 then stC K (bS (kS K) a (tmI (kS K)) (kC K)) else K) = stC K (bS (kS K) a (tmI (kS K)) (kC K)) := if_pos h0
  have e1 : fBT (kS K) a (kC K) = if (bS (kS K) a (tmI (kS K)) (kC K)).1 = 0 then 4 else 0 := if_pos h0
  refine B.run okX10_findBestTransfer [] 60 ?_
  refine At.wV (fe_S K (kS K)) [] [vI a, vR 2 0, vR 51 0] B.1 (s_totalMoment (kS K) hK.1) kX8_totalMoment ln_X10_119 (B.fit (by decide) (by decide) (by decide)) (dcV okX10_findBestTransfer rfl) ?_
  refine B.run okX10_findBestTransfer [] 60 ?_
  refine At.wV (fe_CS K (bS (kS K) a (tmI (kS K)) (kC K))) [vR 1 0, vI a, vI (tmI (kS K))] [] B.1 (s_searchT (kC K) (gc (kS K)) hK.1.1 _ _ _ _ _ _ a (tmI (kS K))) kX2_searchTransfers ln_X10_126 (B.fit (by decide) (by decide) (by decide)) (dcV okX10_findBestTransfer rfl) ?_
  refine B.run okX10_findBestTransfer [] 60 ?_
  constructor
  · intro h
    exact B.thrNW okX10_findBestTransfer T_N ex_476 (PoF_n (m := 4) (by rw [e1]; exact if_pos h) (by decide) rfl (by rw [e0])) (by decide) (by decide) (by decide)
  · intro h
    exact rCN (by rw [e1]; exact if_neg h) (by rw [e0])
theorem m_bestSource (K : KS') (hK : WK K) (a : Int32) : Sp 12 12 700 mX10_bestSource [vR 0 0, vI a] (world K) (PoC (fBT (kS K) a (kC K)) (some (vI (bS (kS K) a (tmI (kS K)) (kC K)).2.1)) (K) (K)) := by
  refine Sp.of' false (fun h => by cases h) (by decide) rfl rfl (Nat.le_of_ble_eq_true rfl) fun γ σ B => ?_
  refine B.run okX10_bestSource [] 60 ?_
  refine At.fI [vI a] [] B.1 B.2.1 (s_findBestTransfer K hK a) kX10_findBestTransfer ln_X10_269 (B.fit (by decide) (by decide) (by decide)) (by decide) (by decide) (dcV okX10_bestSource rfl) (fun hf => ?_) (fun hf => PoC_x hf (kT K) _ hK.2.1 (ite_scr K _))
  rw [if_pos (fBT_0 hf)]
  refine B.run okX10_bestSource [] 60 ?_
  exact rCo hf rfl (kT K) (bS (kS K) a (tmI (kS K)) (kC K)) hK.2.1
theorem m_bestTarget (K : KS') (hK : WK K) (a : Int32) : Sp 12 12 700 mX10_bestTarget [vR 0 0, vI a] (world K) (PoC (fBT (kS K) a (kC K)) (some (vI (bS (kS K) a (tmI (kS K)) (kC K)).2.2.1)) (K) (K)) := by
  refine Sp.of' false (fun h => by cases h) (by decide) rfl rfl (Nat.le_of_ble_eq_true rfl) fun γ σ B => ?_
  refine B.run okX10_bestTarget [] 60 ?_
  refine At.fI [vI a] [] B.1 B.2.1 (s_findBestTransfer K hK a) kX10_findBestTransfer ln_X10_269 (B.fit (by decide) (by decide) (by decide)) (by decide) (by decide) (dcV okX10_bestTarget rfl) (fun hf => ?_) (fun hf => PoC_x hf (kT K) _ hK.2.1 (ite_scr K _))
  rw [if_pos (fBT_0 hf)]
  refine B.run okX10_bestTarget [] 60 ?_
  exact rCo hf rfl (kT K) (bS (kS K) a (tmI (kS K)) (kC K)) hK.2.1
theorem m_bestMoment (K : KS') (hK : WK K) (a : Int32) : Sp 12 12 700 mX10_bestMoment [vR 0 0, vI a] (world K) (PoC (fBT (kS K) a (kC K)) (some (vI (bS (kS K) a (tmI (kS K)) (kC K)).2.2.2)) (K) (K)) := by
  refine Sp.of' false (fun h => by cases h) (by decide) rfl rfl (Nat.le_of_ble_eq_true rfl) fun γ σ B => ?_
  refine B.run okX10_bestMoment [] 60 ?_
  refine At.fI [vI a] [] B.1 B.2.1 (s_findBestTransfer K hK a) kX10_findBestTransfer ln_X10_269 (B.fit (by decide) (by decide) (by decide)) (by decide) (by decide) (dcV okX10_bestMoment rfl) (fun hf => ?_) (fun hf => PoC_x hf (kT K) _ hK.2.1 (ite_scr K _))
  rw [if_pos (fBT_0 hf)]
  refine B.run okX10_bestMoment [] 60 ?_
  exact rCo hf rfl (kT K) (bS (kS K) a (tmI (kS K)) (kC K)) hK.2.1
def fBS (S : SH) (C : CS) : Nat := if (bstH S C).1 = 0 then 4 else 0
theorem s_findBestShift (K : KS') (hK : WK K) : Sp 7 1 6 mX10_findBestShift [vR 0 0] (world K) (PoF (fBS (kS K) (kC K)) none (world (stC K (bstH (kS K) (kC K))))) := by
  refine Sp.of' false (fun h => by cases h) (by decide) rfl rfl (Nat.le_of_ble_eq_true rfl) fun γ σ B => ?_
  refine B.run okX10_findBestShift [] 60 ?_
  refine At.wV (fe_CX K (bstH (kS K) (kC K))) [vR 1 0] [] B.1 (s_searchH (kC K) (kS K) hK.1) kX2_searchShifts ln_X10_476 (B.fit (by decide) (by decide) (by decide)) (dcV okX10_findBestShift rfl) ?_
  refine B.run okX10_findBestShift [] 60 ?_
  constructor
  · intro h
    exact B.thrNW okX10_findBestShift T_N ex_481 (PoF_n (m := 4) (by unfold fBS; exact if_pos h) (by decide) rfl rfl) (by decide) (by decide) (by decide)
  · intro h
    exact rCN (by unfold fBS; exact if_neg h) rfl
theorem m_bestShiftPiece (K : KS') (hK : WK K) : Sp 12 12 700 mX10_bestShiftPiece [vR 0 0] (world K) (PoC (fBS (kS K) (kC K)) (some (vI (bstH (kS K) (kC K)).2.1)) (K) (K)) := by
  refine Sp.of' false (fun h => by cases h) (by decide) rfl rfl (Nat.le_of_ble_eq_true rfl) fun γ σ B => ?_
  refine B.run okX10_bestShiftPiece [] 60 ?_
  refine At.fI [] [] B.1 B.2.1 (s_findBestShift K hK) kX10_findBestShift ln_X10_285 (B.fit (by decide) (by decide) (by decide)) (by decide) (by decide) (dcV okX10_bestShiftPiece rfl) (fun hf => ?_) (fun hf => PoC_x hf (kT K) (bstH (kS K) (kC K)) hK.2.1 rfl)
  refine B.run okX10_bestShiftPiece [] 60 ?_
  exact rCo hf rfl (kT K) (bstH (kS K) (kC K)) hK.2.1
theorem m_bestShiftCompartment (K : KS') (hK : WK K) : Sp 12 12 700 mX10_bestShiftCompartment [vR 0 0] (world K) (PoC (fBS (kS K) (kC K)) (some (vI (bstH (kS K) (kC K)).2.2.1)) (K) (K)) := by
  refine Sp.of' false (fun h => by cases h) (by decide) rfl rfl (Nat.le_of_ble_eq_true rfl) fun γ σ B => ?_
  refine B.run okX10_bestShiftCompartment [] 60 ?_
  refine At.fI [] [] B.1 B.2.1 (s_findBestShift K hK) kX10_findBestShift ln_X10_285 (B.fit (by decide) (by decide) (by decide)) (by decide) (by decide) (dcV okX10_bestShiftCompartment rfl) (fun hf => ?_) (fun hf => PoC_x hf (kT K) (bstH (kS K) (kC K)) hK.2.1 rfl)
  refine B.run okX10_bestShiftCompartment [] 60 ?_
  exact rCo hf rfl (kT K) (bstH (kS K) (kC K)) hK.2.1
def fBal (S : SH) (a : Int32) (C : CS) : Nat := if fAmt a = 0 then (if impB (bS S a (tmI S) C) (tmI S) = true then 0 else 3) else fAmt a
theorem impB_f {C : CS} {x : Int32} (h : impB C x = true) : ¬ C.1 = 0 := by
  intro q
  unfold impB at h
  rw [decide_eq_true q] at h
  cases h
abbrev eBal (S : SH) (a : Int32) (C : CS) : SH := eMov S (bS S a (tmI S) C).2.1 (bS S a (tmI S) C).2.2.1 a
theorem m_balance (K : KS') (hK : WK K) (a : Int32) : Sp 12 12 700 mX10_balance [vR 0 0, vI a] (world K) (PoC (fBal (kS K) a (kC K)) (some (vI (tmI (eBal (kS K) a (kC K))))) (chg K (eBal (kS K) a (kC K))) (K)) := by
  refine Sp.of' false (fun h => by cases h) (by decide) rfl rfl (Nat.le_of_ble_eq_true rfl) fun γ σ B => ?_
  refine B.run okX10_balance [] 60 ?_
  refine At.cSA [] [vI a] [] B.1 (s_fAmt a) kX10_faultOfAmount ln_X10_123 trivial (B.fit (by decide) (by decide) (by decide)) (dcS okX10_balance rfl) ?_
  show At γ σ 0 0 4 [(0, vR 0 0), (1, vI a)] [vK (fAmt a)] (world K)
  refine At.fS [] [vK (fAmt a)] [] B.1 B.2.1 (s_refuse _ (fAmt_i a)) kX10_refuse ln_X10_57 trivial (B.fit (by decide) (by decide) (by decide)) (by decide) (by decide) (dcS okX10_balance rfl) (fun h0 => ?_) (fun h0 => PoC_n (m := fAmt a) (by unfold fBal; exact if_neg h0) h0 rfl (kT K) (kC K) hK.2.1 rfl)
  have e1 : fBal (kS K) a (kC K) = if impB (bS (kS K) a (tmI (kS K)) (kC K)) (tmI (kS K)) = true then 0 else 3 := if_pos h0
  refine B.run okX10_balance [] 60 ?_
  refine At.wV (fe_S K (kS K)) [] [] B.1 (s_totalMoment (kS K) hK.1) kX8_totalMoment ln_X10_119 (B.fit (by decide) (by decide) (by decide)) (dcV okX10_balance rfl) ?_
  refine B.run okX10_balance [] 60 ?_
  refine At.wV (fe_CS K (bS (kS K) a (tmI (kS K)) (kC K))) [vR 1 0, vI a, vI (tmI (kS K))] [] B.1 (s_searchT (kC K) (gc (kS K)) hK.1.1 _ _ _ _ _ _ a (tmI (kS K))) kX2_searchTransfers ln_X10_126 (B.fit (by decide) (by decide) (by decide)) (dcV okX10_balance rfl) ?_
  refine B.run okX10_balance [] 60 ?_
  refine At.wV (fe_C (stC K (bS (kS K) a (tmI (kS K)) (kC K))) (bS (kS K) a (tmI (kS K)) (kC K))) [vI (tmI (kS K))] [] B.1 (s_improves (bS (kS K) a (tmI (kS K)) (kC K)) (tmI (kS K))) kX2_improves ln_X10_130 (B.fit (by decide) (by decide) (by decide)) (dcV okX10_balance rfl) ?_
  refine B.run okX10_balance [] 60 ?_
  constructor
  · intro h
    have h := b2_eq0.mp h
    exact B.thr okX10_balance T_S ex_141 (PoC_n (m := 3) (by rw [e1, h]; rfl) (by decide) rfl (kT K) (bS (kS K) a (tmI (kS K)) (kC K)) hK.2.1 rfl) (by decide) (by decide) (by decide)
  · intro h
    have h := b2_ne0.mp h
    have hc8 := hK.1.1
    rcases CIn_bst (kS K) a (tmI (kS K)) (kC K) with q | ⟨s, t, hs, ht, es, et⟩
    · exact absurd q (impB_f h)
    have em : eBal (kS K) a (kC K) = eMovN (kS K) s t a := by
      unfold eBal
      rw [es, et]; exact eMov_n (by omega) (by omega)
    refine B.run okX10_balance [] 60 ?_
    refine At.wV (fe_H (stC K (bS (kS K) a (tmI (kS K)) (kC K))) (keepH (kH K) (kS K))) [vR 34 0] [] B.1 (s_keep (kH K) (kS K) hK.2.2.2.2.1 hK.2.2.2.2.2.1 hK.1.2.2.2.2.1) kX4_keep ln_X10_61 (B.fit (by decide) (by decide) (by decide)) (dcV okX10_balance rfl) ?_
    refine B.run okX10_balance [] 60 ?_
    show At γ σ _ _ 85 [(0, vR 0 0), (1, vI a), (2, vI (tmI (kS K)))] [vI a, vI (bS (kS K) a (tmI (kS K)) (kC K)).2.2.1, vI (bS (kS K) a (tmI (kS K)) (kC K)).2.1, vR 2 0] (world (stH (stC K (bS (kS K) a (tmI (kS K)) (kC K))) (keepH (kH K) (kS K))))
    rw [es, et]
    refine At.wV (fe_hS (stH (stC K (bS (kS K) a (tmI (kS K)) (kC K))) (keepH (kH K) (kS K))) (eMovN (kS K) s t a).1) [vI (nI s), vI (nI t), vI a] [] B.1 (s_move (nI (gc (kS K))) _ _ _ _ _ _ s t (by omega) (by omega) a) kX5_move ln_X10_115 (B.fit (by decide) (by decide) (by decide)) (dcV okX10_balance rfl) ?_
    refine B.run okX10_balance [] 60 ?_
    refine At.wV (fe_S (chg (stC K (bS (kS K) a (tmI (kS K)) (kC K))) (eMovN (kS K) s t a)) (eMovN (kS K) s t a)) [] [] B.1 (s_totalMoment (eMovN (kS K) s t a) hK.1) kX8_totalMoment ln_X10_119 (B.fit (by decide) (by decide) (by decide)) (dcV okX10_balance rfl) ?_
    refine B.run okX10_balance [] 60 ?_
    exact rCo (by rw [e1, h]; rfl) (by rw [em]) (kT K) (bS (kS K) a (tmI (kS K)) (kC K)) hK.2.1 (by rw [em])
def fMA (x : Int32) : Nat := if wiB x 0 120 = true then 0 else 2
abbrev cpT (K : KS') : SH := cpS (kT K) (kS K)
theorem WF_cpT {K : KS'} (hK : WK K) : WF (cpT K) := hK.1
theorem m_momentAfter (K : KS') (hK : WK K) (x : Int32) : Sp 12 12 700 mX10_momentAfter [vR 0 0, vI x] (world K) (PoC (fMA x) (some (vI (tmI (tks x.toNatClampNeg (cpT K))))) (K) (K)) := by
  refine Sp.of' false (fun h => by cases h) (by decide) rfl rfl (Nat.le_of_ble_eq_true rfl) fun γ σ B => ?_
  refine B.run okX10_momentAfter [] 60 ?_
  refine At.cSI [] [vI x, vI 0, vI 120] [] B.1 (s_isWithin x 0 120) kX10_isWithin ln_X10_154 trivial (B.fit (by decide) (by decide) (by decide)) (dcS okX10_momentAfter rfl) ?_
  refine B.run okX10_momentAfter [] 60 ?_
  constructor
  · intro h
    have h := b2_eq0.mp h
    exact B.thrW okX10_momentAfter T_A ex_293 (PoC_n (m := 2) (by unfold fMA; rw [h]; rfl) (by decide) rfl (kT K) (kC K) hK.2.1 rfl) (by decide) (by decide) (by decide)
  · intro h
    have h := b2_ne0.mp h
    obtain ⟨N, hN, rfl⟩ := wi_of h (by decide) rfl
    have eN : (nI N).toNatClampNeg = N := nI_clamp (Nat.lt_of_le_of_lt hN (by decide))
    refine B.run okX10_momentAfter [] 60 ?_
    refine At.wV (fe_TS K (cpT K)) [vR 4 0] [] B.1 (s_scopy (kT K) (kS K) hK.1.2.2.2.2.1) kX8_copyFrom ln_X10_275 (B.fit (by decide) (by decide) (by decide)) (dcV okX10_momentAfter rfl) ?_
    refine B.run okX10_momentAfter [] 60 ?_
    refine At.wV (fe_T (stT K (cpT K)) (tks N (cpT K))) [vI (nI N)] [] B.1 (s_letPass (cpT K) (WF_cpT hK) N hN) kX8_letPass ln_X10_190 (B.fit (by decide) (by decide) (by decide)) (dcV okX10_momentAfter rfl) ?_
    refine B.run okX10_momentAfter [] 60 ?_
    refine At.wV (fe_T (stT K (tks N (cpT K))) (tks N (cpT K))) [] [] B.1 (s_totalMoment (tks N (cpT K)) (WF_tks N (WF_cpT hK))) kX8_totalMoment ln_X10_119 (B.fit (by decide) (by decide) (by decide)) (dcV okX10_momentAfter rfl) ?_
    refine B.run okX10_momentAfter [] 60 ?_
    exact rCo (by unfold fMA; exact if_pos h) (by rw [eN]) (tks N (cpT K)) (kC K) (WF_tks N (WF_cpT hK))
def fMS (T : SH) : Nat := if gsk (tks 120 T) = 0 then 4 else 0
def fUnd (H : Nat × Nat × (Nat → SH)) : Nat := if H.2.1 = 0 then 3 else 0
abbrev ndx (H : Nat × Nat × (Nat → SH)) : Nat := (H.1 + 7) % 8
abbrev eUnd (K : KS') : KS' := stS (stH K (ndx (kH K), (kH K).2.1 - 1, (kH K).2.2)) (cpS (kS K) ((kH K).2.2 (ndx (kH K))))