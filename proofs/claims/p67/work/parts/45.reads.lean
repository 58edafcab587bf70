/-! ===== the reads ===== -/
theorem nz_of {c b : Nat} (hc : c ≤ b) (hb : b < 2 ^ 31) (h : nI c = 0) : c = 0 := by
  rcases Nat.eq_zero_or_pos c with q | q
  · exact q
  · exact absurd h (nI_ne0 q (Nat.lt_of_le_of_lt hc hb))
theorem b2_in (b : Bool) : b2 b = 0 ∨ b2 b = 1 := by cases b <;> decide
theorem m_minute (K : KS') (hK : WK K) : Sp 12 12 700 mX10_minute [vR 0 0] (world K) (PoC (0) (some (vI (gmn (kS K)))) (K) (K)) := by
  refine Sp.of' false (fun h => by cases h) (by decide) rfl rfl (Nat.le_of_ble_eq_true rfl) fun γ σ B => ?_
  refine B.run okX10_minute [] 60 ?_
  exact rCo rfl rfl (kT K) (kC K) hK.2.1
theorem m_compartmentCount (K : KS') (hK : WK K) : Sp 12 12 700 mX10_compartmentCount [vR 0 0] (world K) (PoC (0) (some (vI (nI (gc (kS K))))) (K) (K)) := by
  refine Sp.of' false (fun h => by cases h) (by decide) rfl rfl (Nat.le_of_ble_eq_true rfl) fun γ σ B => ?_
  refine B.run okX10_compartmentCount [] 60 ?_
  exact rCo rfl rfl (kT K) (kC K) hK.2.1
theorem m_pieceCount (K : KS') (hK : WK K) : Sp 12 12 700 mX10_pieceCount [vR 0 0] (world K) (PoC (0) (some (vI (nI (gp (kS K))))) (K) (K)) := by
  refine Sp.of' false (fun h => by cases h) (by decide) rfl rfl (Nat.le_of_ble_eq_true rfl) fun γ σ B => ?_
  refine B.run okX10_pieceCount [] 60 ?_
  exact rCo rfl rfl (kT K) (kC K) hK.2.1
theorem m_stormCount (K : KS') (hK : WK K) : Sp 12 12 700 mX10_stormCount [vR 0 0] (world K) (PoC (0) (some (vI (nI (gsc (kS K))))) (K) (K)) := by
  refine Sp.of' false (fun h => by cases h) (by decide) rfl rfl (Nat.le_of_ble_eq_true rfl) fun γ σ B => ?_
  refine B.run okX10_stormCount [] 60 ?_
  exact rCo rfl rfl (kT K) (kC K) hK.2.1
theorem m_undoableCount (K : KS') (hK : WK K) : Sp 12 12 700 mX10_undoableCount [vR 0 0] (world K) (PoC (0) (some (vI (nI (kH K).2.1))) (K) (K)) := by
  refine Sp.of' false (fun h => by cases h) (by decide) rfl rfl (Nat.le_of_ble_eq_true rfl) fun γ σ B => ?_
  refine B.run okX10_undoableCount [] 60 ?_
  exact rCo rfl rfl (kT K) (kC K) hK.2.1
theorem m_weight (K : KS') (hK : WK K) : Sp 12 12 700 mX10_weight [vR 0 0] (world K) (PoC (0) (some (vI (twI (kS K)))) (K) (K)) := by
  refine Sp.of' false (fun h => by cases h) (by decide) rfl rfl (Nat.le_of_ble_eq_true rfl) fun γ σ B => ?_
  refine B.run okX10_weight [] 60 ?_
  refine At.wV (fe_S K (kS K)) [] [] B.1 (s_totalWeight (kS K) hK.1) kX8_totalWeight ln_X10_250 (B.fit (by decide) (by decide) (by decide)) (dcV okX10_weight rfl) ?_
  refine B.run okX10_weight [] 60 ?_
  exact rCo rfl rfl (kT K) (kC K) hK.2.1
theorem m_weightByParts (K : KS') (hK : WK K) : Sp 12 12 700 mX10_weightByParts [vR 0 0] (world K) (PoC (0) (some (vI (sumI (gw (kS K)) (gc (kS K)) + sumI (gwt (kS K)) (gp (kS K))))) (K) (K)) := by
  refine Sp.of' false (fun h => by cases h) (by decide) rfl rfl (Nat.le_of_ble_eq_true rfl) fun γ σ B => ?_
  refine B.run okX10_weightByParts [] 60 ?_
  refine At.wV (fe_S K (kS K)) [] [] B.1 (s_weightOfParts (kS K) hK.1) kX8_weightOfParts ln_X10_253 (B.fit (by decide) (by decide) (by decide)) (dcV okX10_weightByParts rfl) ?_
  refine B.run okX10_weightByParts [] 60 ?_
  exact rCo rfl rfl (kT K) (kC K) hK.2.1
theorem m_moment (K : KS') (hK : WK K) : Sp 12 12 700 mX10_moment [vR 0 0] (world K) (PoC (0) (some (vI (tmI (kS K)))) (K) (K)) := by
  refine Sp.of' false (fun h => by cases h) (by decide) rfl rfl (Nat.le_of_ble_eq_true rfl) fun γ σ B => ?_
  refine B.run okX10_moment [] 60 ?_
  refine At.wV (fe_S K (kS K)) [] [] B.1 (s_totalMoment (kS K) hK.1) kX8_totalMoment ln_X10_119 (B.fit (by decide) (by decide) (by decide)) (dcV okX10_moment rfl) ?_
  refine B.run okX10_moment [] 60 ?_
  exact rCo rfl rfl (kT K) (kC K) hK.2.1
theorem m_momentByParts (K : KS') (hK : WK K) : Sp 12 12 700 mX10_momentByParts [vR 0 0] (world K) (PoC (0) (some (vI (mpI (kS K)))) (K) (K)) := by
  refine Sp.of' false (fun h => by cases h) (by decide) rfl rfl (Nat.le_of_ble_eq_true rfl) fun γ σ B => ?_
  refine B.run okX10_momentByParts [] 60 ?_
  refine At.wV (fe_S K (kS K)) [] [] B.1 (s_momentOfParts (kS K) hK.1) kX8_momentOfParts ln_X10_256 (B.fit (by decide) (by decide) (by decide)) (dcV okX10_momentByParts rfl) ?_
  refine B.run okX10_momentByParts [] 60 ?_
  exact rCo rfl rfl (kT K) (kC K) hK.2.1
theorem m_trim (K : KS') (hK : WK K) : Sp 12 12 700 mX10_trim [vR 0 0] (world K) (PoC (0) (some (vI (trimI (tmI (kS K)) (twI (kS K))))) (K) (K)) := by
  refine Sp.of' false (fun h => by cases h) (by decide) rfl rfl (Nat.le_of_ble_eq_true rfl) fun γ σ B => ?_
  refine B.run okX10_trim [] 60 ?_
  refine At.wV (fe_S K (kS K)) [] [] B.1 (s_totalMoment (kS K) hK.1) kX8_totalMoment ln_X10_119 (B.fit (by decide) (by decide) (by decide)) (dcV okX10_trim rfl) ?_
  refine B.run okX10_trim [] 60 ?_
  refine At.wV (fe_S K (kS K)) [] [vI (tmI (kS K))] B.1 (s_totalWeight (kS K) hK.1) kX8_totalWeight ln_X10_250 (B.fit (by decide) (by decide) (by decide)) (dcV okX10_trim rfl) ?_
  refine At.cSI [] [vI (tmI (kS K)), vI (twI (kS K))] [] B.1 (s_trimFor (tmI (kS K)) (twI (kS K))) kX10_trimFor ln_X10_259 trivial (B.fit (by decide) (by decide) (by decide)) (dcS okX10_trim rfl) ?_
  refine B.run okX10_trim [] 60 ?_
  exact rCo rfl rfl (kT K) (kC K) hK.2.1
theorem m_isBalanced (K : KS') (hK : WK K) : Sp 12 12 700 mX10_isBalanced [vR 0 0] (world K) (PoC (0) (some (vI (b2 (decide (absI (trimI (tmI (kS K)) (twI (kS K))) ≤ glm (kS K)))))) (K) (K)) := by
  refine Sp.of' false (fun h => by cases h) (by decide) rfl rfl (Nat.le_of_ble_eq_true rfl) fun γ σ B => ?_
  refine B.run okX10_isBalanced [] 60 ?_
  refine At.wV (fe_S K (kS K)) [] [vR 1 0] B.1 (s_totalMoment (kS K) hK.1) kX8_totalMoment ln_X10_119 (B.fit (by decide) (by decide) (by decide)) (dcV okX10_isBalanced rfl) ?_
  refine B.run okX10_isBalanced [] 60 ?_
  refine At.wV (fe_S K (kS K)) [] [vI (tmI (kS K)), vR 1 0] B.1 (s_totalWeight (kS K) hK.1) kX8_totalWeight ln_X10_250 (B.fit (by decide) (by decide) (by decide)) (dcV okX10_isBalanced rfl) ?_
  refine At.wV (fe_S K (kS K)) [vI (tmI (kS K)), vI (twI (kS K))] [] B.1 (s_isWithinLimit (kS K) (tmI (kS K)) (twI (kS K))) kX8_isWithinLimit ln_X10_262 (B.fit (by decide) (by decide) (by decide)) (dcV okX10_isBalanced rfl) ?_
  refine B.run okX10_isBalanced [] 60 ?_
  exact ⟨b2_in _, rCo rfl rfl (kT K) (kC K) hK.2.1⟩
theorem m_isAfloat (K : KS') (hK : WK K) : Sp 12 12 700 mX10_isAfloat [vR 0 0] (world K) (PoC (0) (some (vI (b2 (decide (gsk (kS K) = 0))))) (K) (K)) := by
  refine Sp.of' false (fun h => by cases h) (by decide) rfl rfl (Nat.le_of_ble_eq_true rfl) fun γ σ B => ?_
  refine B.run okX10_isAfloat [] 60 ?_
  constructor
  · intro h
    exact ⟨Or.inr rfl, rCo rfl (by rw [decide_eq_true h]; rfl) (kT K) (kC K) hK.2.1⟩
  · intro h
    exact ⟨Or.inl rfl, rCo rfl (by rw [decide_eq_false h]; rfl) (kT K) (kC K) hK.2.1⟩
theorem fChk_0 {S : SH} {x : Int32} (h : fChk S x = 0) : hsB (gc S) x = true := by
  unfold fChk at h
  split at h
  · assumption
  · cases h
theorem m_arm (K : KS') (hK : WK K) (x : Int32) : Sp 12 12 700 mX10_arm [vR 0 0, vI x] (world K) (PoC (fChk (kS K) x) (some (vI (gar (kS K) x.toNatClampNeg))) (K) (K)) := by
  refine Sp.of' false (fun h => by cases h) (by decide) rfl rfl (Nat.le_of_ble_eq_true rfl) fun γ σ B => ?_
  refine B.run okX10_arm [] 60 ?_
  refine At.fI [vI x] [] B.1 B.2.1 (s_check K hK x) kX10_checkCompartment ln_X10_197 (B.fit (by decide) (by decide) (by decide)) (by decide) (by decide) (dcV okX10_arm rfl) (fun hf => ?_) (fun hf => PoC_x hf (kT K) (kC K) hK.2.1 rfl)
  have h8 := fChk_0 hf
  obtain ⟨j, hj, ej⟩ := hs_of (Nat.le_trans hK.1.1 (by decide)) h8
  have hj8 : j < 8 := Nat.lt_of_lt_of_le hj hK.1.1
  have hi : vp_in x 8 := by rw [ej]; exact vp_in_nI hj8 (by decide)
  have en : x.toNatClampNeg = j := by rw [ej]; exact nI_clamp (by omega)
  refine B.run okX10_arm [] 60 ?_
  exact ⟨hi, rCo hf rfl (kT K) (kC K) hK.2.1⟩
theorem m_capacity (K : KS') (hK : WK K) (x : Int32) : Sp 12 12 700 mX10_capacity [vR 0 0, vI x] (world K) (PoC (fChk (kS K) x) (some (vI (gcp (kS K) x.toNatClampNeg))) (K) (K)) := by
  refine Sp.of' false (fun h => by cases h) (by decide) rfl rfl (Nat.le_of_ble_eq_true rfl) fun γ σ B => ?_
  refine B.run okX10_capacity [] 60 ?_
  refine At.fI [vI x] [] B.1 B.2.1 (s_check K hK x) kX10_checkCompartment ln_X10_197 (B.fit (by decide) (by decide) (by decide)) (by decide) (by decide) (dcV okX10_capacity rfl) (fun hf => ?_) (fun hf => PoC_x hf (kT K) (kC K) hK.2.1 rfl)
  have h8 := fChk_0 hf
  obtain ⟨j, hj, ej⟩ := hs_of (Nat.le_trans hK.1.1 (by decide)) h8
  have hj8 : j < 8 := Nat.lt_of_lt_of_le hj hK.1.1
  have hi : vp_in x 8 := by rw [ej]; exact vp_in_nI hj8 (by decide)
  have en : x.toNatClampNeg = j := by rw [ej]; exact nI_clamp (by omega)
  refine B.run okX10_capacity [] 60 ?_
  exact ⟨hi, rCo hf rfl (kT K) (kC K) hK.2.1⟩
theorem m_water (K : KS') (hK : WK K) (x : Int32) : Sp 12 12 700 mX10_water [vR 0 0, vI x] (world K) (PoC (fChk (kS K) x) (some (vI (gw (kS K) x.toNatClampNeg))) (K) (K)) := by
  refine Sp.of' false (fun h => by cases h) (by decide) rfl rfl (Nat.le_of_ble_eq_true rfl) fun γ σ B => ?_
  refine B.run okX10_water [] 60 ?_
  refine At.fI [vI x] [] B.1 B.2.1 (s_check K hK x) kX10_checkCompartment ln_X10_197 (B.fit (by decide) (by decide) (by decide)) (by decide) (by decide) (dcV okX10_water rfl) (fun hf => ?_) (fun hf => PoC_x hf (kT K) (kC K) hK.2.1 rfl)
  have h8 := fChk_0 hf
  obtain ⟨j, hj, ej⟩ := hs_of (Nat.le_trans hK.1.1 (by decide)) h8
  have hj8 : j < 8 := Nat.lt_of_lt_of_le hj hK.1.1
  have hi : vp_in x 8 := by rw [ej]; exact vp_in_nI hj8 (by decide)
  have en : x.toNatClampNeg = j := by rw [ej]; exact nI_clamp (by omega)
  refine B.run okX10_water [] 60 ?_
  exact ⟨hi, rCo hf rfl (kT K) (kC K) hK.2.1⟩
theorem m_leak (K : KS') (hK : WK K) (x : Int32) : Sp 12 12 700 mX10_leak [vR 0 0, vI x] (world K) (PoC (fChk (kS K) x) (some (vI (gl (kS K) x.toNatClampNeg))) (K) (K)) := by
  refine Sp.of' false (fun h => by cases h) (by decide) rfl rfl (Nat.le_of_ble_eq_true rfl) fun γ σ B => ?_
  refine B.run okX10_leak [] 60 ?_
  refine At.fI [vI x] [] B.1 B.2.1 (s_check K hK x) kX10_checkCompartment ln_X10_197 (B.fit (by decide) (by decide) (by decide)) (by decide) (by decide) (dcV okX10_leak rfl) (fun hf => ?_) (fun hf => PoC_x hf (kT K) (kC K) hK.2.1 rfl)
  have h8 := fChk_0 hf
  obtain ⟨j, hj, ej⟩ := hs_of (Nat.le_trans hK.1.1 (by decide)) h8
  have hj8 : j < 8 := Nat.lt_of_lt_of_le hj hK.1.1
  have hi : vp_in x 8 := by rw [ej]; exact vp_in_nI hj8 (by decide)
  have en : x.toNatClampNeg = j := by rw [ej]; exact nI_clamp (by omega)
  refine B.run okX10_leak [] 60 ?_
  exact ⟨hi, rCo hf rfl (kT K) (kC K) hK.2.1⟩
theorem m_loadOf (K : KS') (hK : WK K) (x : Int32) : Sp 12 12 700 mX10_loadOf [vR 0 0, vI x] (world K) (PoC (fChk (kS K) x) (some (vI (ldI (kS K) x.toNatClampNeg))) (K) (K)) := by
  refine Sp.of' false (fun h => by cases h) (by decide) rfl rfl (Nat.le_of_ble_eq_true rfl) fun γ σ B => ?_
  refine B.run okX10_loadOf [] 60 ?_
  refine At.fI [vI x] [] B.1 B.2.1 (s_check K hK x) kX10_checkCompartment ln_X10_197 (B.fit (by decide) (by decide) (by decide)) (by decide) (by decide) (dcV okX10_loadOf rfl) (fun hf => ?_) (fun hf => PoC_x hf (kT K) (kC K) hK.2.1 rfl)
  have h8 := fChk_0 hf
  obtain ⟨j, hj, ej⟩ := hs_of (Nat.le_trans hK.1.1 (by decide)) h8
  have hj8 : j < 8 := Nat.lt_of_lt_of_le hj hK.1.1
  have hi : vp_in x 8 := by rw [ej]; exact vp_in_nI hj8 (by decide)
  have en : x.toNatClampNeg = j := by rw [ej]; exact nI_clamp (by omega)
  refine B.run okX10_loadOf [] 60 ?_
  rw [ej]
  refine At.wV (fe_S K (kS K)) [vI (nI j)] [] B.1 (s_loadIn (kS K) hK.1 j hj8) kX8_loadIn ln_X10_210 (B.fit (by decide) (by decide) (by decide)) (dcV okX10_loadOf rfl) ?_
  refine B.run okX10_loadOf [] 60 ?_
  exact rCo hf (by rw [en]) (kT K) (kC K) hK.2.1
theorem m_wouldPump (K : KS') (hK : WK K) (x : Int32) : Sp 12 12 700 mX10_wouldPump [vR 0 0, vI x] (world K) (PoC (fChk (kS K) x) (some (vI (b2 (rnB (gu (kS K)) (gw (kS K)) (gc (kS K)) (gpw (kS K)) x.toNatClampNeg)))) (K) (K)) := by
  refine Sp.of' false (fun h => by cases h) (by decide) rfl rfl (Nat.le_of_ble_eq_true rfl) fun γ σ B => ?_
  refine B.run okX10_wouldPump [] 60 ?_
  refine At.fI [vI x] [] B.1 B.2.1 (s_check K hK x) kX10_checkCompartment ln_X10_197 (B.fit (by decide) (by decide) (by decide)) (by decide) (by decide) (dcV okX10_wouldPump rfl) (fun hf => ?_) (fun hf => PoC_x hf (kT K) (kC K) hK.2.1 rfl)
  have h8 := fChk_0 hf
  obtain ⟨j, hj, ej⟩ := hs_of (Nat.le_trans hK.1.1 (by decide)) h8
  have hj8 : j < 8 := Nat.lt_of_lt_of_le hj hK.1.1
  have hi : vp_in x 8 := by rw [ej]; exact vp_in_nI hj8 (by decide)
  have en : x.toNatClampNeg = j := by rw [ej]; exact nI_clamp (by omega)
  refine B.run okX10_wouldPump [] 60 ?_
  rw [ej]
  refine At.wV (fe_hS K (kS K).1) [vI (nI j), vI (gpw (kS K))] [] B.1 (s_hasPower (gc (kS K)) hK.1.1 _ _ _ _ _ _ j hj8 (gpw (kS K))) kX5_hasPower ln_X10_213 (B.fit (by decide) (by decide) (by decide)) (dcV okX10_wouldPump rfl) ?_
  refine B.run okX10_wouldPump [] 60 ?_
  exact ⟨b2_in _, rCo hf (by rw [en]) (kT K) (kC K) hK.2.1⟩
def fFul (S : SH) (x : Int32) : Nat := if hsB (gc S) x = true then (if gcp S x.toNatClampNeg - gw S x.toNatClampNeg = 0 then 0 else if gl S x.toNatClampNeg ≤ 0 then 4 else 0) else 1
def vFul (S : SH) (x : Int32) : Int32 := if gcp S x.toNatClampNeg - gw S x.toNatClampNeg = 0 then 0 else (gcp S x.toNatClampNeg - gw S x.toNatClampNeg + gl S x.toNatClampNeg - 1) / gl S x.toNatClampNeg
theorem m_minutesUntilFull (K : KS') (hK : WK K) (x : Int32) : Sp 12 12 700 mX10_minutesUntilFull [vR 0 0, vI x] (world K) (PoC (fFul (kS K) x) (some (vI (vFul (kS K) x))) (K) (K)) := by
  refine Sp.of' false (fun h => by cases h) (by decide) rfl rfl (Nat.le_of_ble_eq_true rfl) fun γ σ B => ?_
  refine B.run okX10_minutesUntilFull [] 60 ?_
  refine At.fI [vI x] [] B.1 B.2.1 (s_check K hK x) kX10_checkCompartment ln_X10_197 (B.fit (by decide) (by decide) (by decide)) (by decide) (by decide) (dcV okX10_minutesUntilFull rfl) (fun hf => ?_) (fun hf => ?_)
  case refine_2 =>
    have hq : fChk (kS K) x = 1 ∧ fFul (kS K) x = 1 := by
      unfold fChk fFul
      unfold fChk at hf
      split at hf
      · exact absurd rfl hf
      · rename_i h; rw [if_neg h, if_neg h]; exact ⟨rfl, rfl⟩
    rw [hq.1]
    exact PoC_n (m := 1) hq.2 (by decide) rfl (kT K) (kC K) hK.2.1 rfl
  have h8 := fChk_0 hf
  have hi : vp_in x 8 := by
    obtain ⟨j, hj, ej⟩ := hs_of (Nat.le_trans hK.1.1 (by decide)) h8
    rw [ej]; exact vp_in_nI (Nat.lt_of_lt_of_le hj hK.1.1) (by decide)
  refine B.run okX10_minutesUntilFull [] 60 ?_
  refine ⟨hi, hi, ?_⟩
  constructor
  · intro h
    exact rCo (by unfold fFul; rw [if_pos h8, if_pos h]) (by unfold vFul; rw [if_pos h]) (kT K) (kC K) hK.2.1
  · intro h
    refine ⟨hi, ?_⟩
    constructor
    · intro h2
      have h3 : ¬ gl (kS K) x.toNatClampNeg ≤ 0 := Int32.not_le.mpr h2
      exact ⟨fun q => h3 (by rw [q]; decide), rCo (by unfold fFul; rw [if_pos h8, if_neg h, if_neg h3]) (by unfold vFul; rw [if_neg h]) (kT K) (kC K) hK.2.1⟩
    · intro h2
      have h3 : gl (kS K) x.toNatClampNeg ≤ 0 := Int32.not_lt.mp h2
      exact B.thrN okX10_minutesUntilFull T_N ex_233 (PoC_n (m := 4) (by unfold fFul; rw [if_pos h8, if_neg h, if_pos h3]) (by decide) rfl (kT K) (kC K) hK.2.1 rfl) (by decide) (by decide) (by decide)
def fIdA (S : SH) (x : Int32) : Nat := if hsB (gp S) x = true then 0 else 1
theorem m_idAt (K : KS') (hK : WK K) (x : Int32) : Sp 12 12 700 mX10_idAt [vR 0 0, vI x] (world K) (PoC (fIdA (kS K) x) (some (vI (gid (kS K) x.toNatClampNeg))) (K) (K)) := by
  refine Sp.of' false (fun h => by cases h) (by decide) rfl rfl (Nat.le_of_ble_eq_true rfl) fun γ σ B => ?_
  refine B.run okX10_idAt [] 60 ?_
  constructor
  · intro h
    have hb : hsB (gp (kS K)) x = false := by unfold hsB; rw [decide_eq_false (Int32.not_le.mpr h)]; rfl
    exact B.thr okX10_idAt T_I ex_238 (PoC_n (m := 1) (by unfold fIdA; rw [hb]; rfl) (by decide) rfl (kT K) (kC K) hK.2.1 rfl) (by decide) (by decide) (by decide)
  · intro h
    constructor
    · intro h2
      have hb : hsB (gp (kS K)) x = true := by unfold hsB; rw [decide_eq_true (Int32.not_lt.mp h), decide_eq_true h2]; rfl
      have hi : vp_in x 16 := by
        obtain ⟨j, hj, ej⟩ := hs_of (Nat.le_trans hK.1.2.1 (by decide)) hb
        rw [ej]; exact vp_in_nI (Nat.lt_of_lt_of_le hj hK.1.2.1) (by decide)
      exact ⟨hi, rCo (by unfold fIdA; rw [if_pos hb]) rfl (kT K) (kC K) hK.2.1⟩
    · intro h2
      have hb : hsB (gp (kS K)) x = false := by unfold hsB; rw [decide_eq_false h2, Bool.and_false]
      exact B.thr okX10_idAt T_I ex_238 (PoC_n (m := 1) (by unfold fIdA; rw [hb]; rfl) (by decide) rfl (kT K) (kC K) hK.2.1 rfl) (by decide) (by decide) (by decide)
def fLogA (S : SH) (x : Int32) : Nat := if hsB (glc S) x = true then 0 else 4
theorem s_positionOfPiece (K : KS') (hK : WK K) (x : Int32) : Sp 6 1 6 mX10_positionOfPiece [vR 0 0, vI x] (world K) (PoF (fUnl (kS K) x) (some (vI (nI (pq (kS K) x)))) (world K)) := by
  refine Sp.of' false (fun h => by cases h) (by decide) rfl rfl (Nat.le_of_ble_eq_true rfl) fun γ σ B => ?_
  refine B.run okX10_positionOfPiece [] 60 ?_
  refine At.wV (fe_gS K (kS K).2.1) [vI x] [] B.1 (s_cfind (gp (kS K)) hK.1.2.1 _ _ _ _ x) kX1_find ln_X10_465 (B.fit (by decide) (by decide) (by decide)) (dcV okX10_positionOfPiece rfl) ?_
  refine B.run okX10_positionOfPiece [] 60 ?_
  by_cases hq : pq (kS K) x < gp (kS K)
  · have e : fnd (gid (kS K)) x (gp (kS K)) = nI (pq (kS K) x) := if_pos hq
    rw [e]
    constructor
    · intro h
      exact rCF (by unfold fUnl; exact if_pos hq) rfl
    · intro h
      exact absurd (nI_pos' (Nat.lt_of_lt_of_le (Nat.lt_of_lt_of_le hq hK.1.2.1) (by decide))) h
  · have e : fnd (gid (kS K)) x (gp (kS K)) = -1 := if_neg hq
    rw [e]
    constructor
    · intro h
      exact absurd h (by decide)
    · intro h
      exact B.thrNW okX10_positionOfPiece T_N ex_457 (PoF_n (m := 4) (by unfold fUnl; exact if_neg hq) (by decide) rfl rfl) (by decide) (by decide) (by decide)
def fStm (S : SH) (x : Int32) : Nat := if fst (eqB (gmi S) x) (gsc S) < gsc S then 0 else 4
theorem fStm_i {S : SH} {x : Int32} (h : fStm S x = 0) : tq S x < gsc S := by
  unfold fStm at h
  split at h
  · assumption
  · cases h
theorem s_positionOfStorm (K : KS') (hK : WK K) (x : Int32) : Sp 6 1 6 mX10_positionOfStorm [vR 0 0, vI x] (world K) (PoF (fStm (kS K) x) (some (vI (nI (tq (kS K) x)))) (world K)) := by
  refine Sp.of' false (fun h => by cases h) (by decide) rfl rfl (Nat.le_of_ble_eq_true rfl) fun γ σ B => ?_
  refine B.run okX10_positionOfStorm [] 60 ?_
  refine At.wV (fe_wS K (kS K).2.2.1) [vI x] [] B.1 (s_tfind (gsc (kS K)) hK.1.2.2.1 _ _ _ _ x) kX9_find ln_X10_468 (B.fit (by decide) (by decide) (by decide)) (dcV okX10_positionOfStorm rfl) ?_
  refine B.run okX10_positionOfStorm [] 60 ?_
  by_cases hq : tq (kS K) x < gsc (kS K)
  · have e : fnd (gmi (kS K)) x (gsc (kS K)) = nI (tq (kS K) x) := if_pos hq
    rw [e]
    constructor
    · intro h
      exact rCF (by unfold fStm; exact if_pos hq) rfl
    · intro h
      exact absurd (nI_pos' (Nat.lt_of_lt_of_le (Nat.lt_of_lt_of_le hq hK.1.2.2.1) (by decide))) h
  · have e : fnd (gmi (kS K)) x (gsc (kS K)) = -1 := if_neg hq
    rw [e]
    constructor
    · intro h
      exact absurd h (by decide)
    · intro h
      exact B.thrNW okX10_positionOfStorm T_N ex_471 (PoF_n (m := 4) (by unfold fStm; exact if_neg hq) (by decide) rfl rfl) (by decide) (by decide) (by decide)
theorem m_weightOf (K : KS') (hK : WK K) (x : Int32) : Sp 12 12 700 mX10_weightOf [vR 0 0, vI x] (world K) (PoC (fUnl (kS K) x) (some (vI (gwt (kS K) (pq (kS K) x)))) (K) (K)) := by
  refine Sp.of' false (fun h => by cases h) (by decide) rfl rfl (Nat.le_of_ble_eq_true rfl) fun γ σ B => ?_
  refine B.run okX10_weightOf [] 60 ?_
  refine At.fI [vI x] [vR 3 2] B.1 B.2.1 (s_positionOfPiece K hK x) kX10_positionOfPiece ln_X10_242 (B.fit (by decide) (by decide) (by decide)) (by decide) (by decide) (dcV okX10_weightOf rfl) (fun hf => ?_) (fun hf => PoC_x hf (kT K) (kC K) hK.2.1 rfl)
  have h8 : pq (kS K) x < gp (kS K) := (fUnl_i (kS K) x).2 hf
  have h9 : pq (kS K) x < 16 := Nat.lt_of_lt_of_le h8 hK.1.2.1
  refine B.run okX10_weightOf [] 60 ?_
  exact ⟨vp_in_nI h9 (by decide), rCo hf (by rw [nI_clamp (Nat.lt_trans h9 (by decide))]) (kT K) (kC K) hK.2.1⟩
theorem m_compartmentOf (K : KS') (hK : WK K) (x : Int32) : Sp 12 12 700 mX10_compartmentOf [vR 0 0, vI x] (world K) (PoC (fUnl (kS K) x) (some (vI (gpl (kS K) (pq (kS K) x)))) (K) (K)) := by
  refine Sp.of' false (fun h => by cases h) (by decide) rfl rfl (Nat.le_of_ble_eq_true rfl) fun γ σ B => ?_
  refine B.run okX10_compartmentOf [] 60 ?_
  refine At.fI [vI x] [vR 3 3] B.1 B.2.1 (s_positionOfPiece K hK x) kX10_positionOfPiece ln_X10_242 (B.fit (by decide) (by decide) (by decide)) (by decide) (by decide) (dcV okX10_compartmentOf rfl) (fun hf => ?_) (fun hf => PoC_x hf (kT K) (kC K) hK.2.1 rfl)
  have h8 : pq (kS K) x < gp (kS K) := (fUnl_i (kS K) x).2 hf
  have h9 : pq (kS K) x < 16 := Nat.lt_of_lt_of_le h8 hK.1.2.1
  refine B.run okX10_compartmentOf [] 60 ?_
  exact ⟨vp_in_nI h9 (by decide), rCo hf (by rw [nI_clamp (Nat.lt_trans h9 (by decide))]) (kT K) (kC K) hK.2.1⟩
theorem m_strengthAt (K : KS') (hK : WK K) (x : Int32) : Sp 12 12 700 mX10_strengthAt [vR 0 0, vI x] (world K) (PoC (fStm (kS K) x) (some (vI (gsg (kS K) (tq (kS K) x)))) (K) (K)) := by
  refine Sp.of' false (fun h => by cases h) (by decide) rfl rfl (Nat.le_of_ble_eq_true rfl) fun γ σ B => ?_
  refine B.run okX10_strengthAt [] 60 ?_
  refine At.fI [vI x] [vR 4 2] B.1 B.2.1 (s_positionOfStorm K hK x) kX10_positionOfStorm ln_X10_181 (B.fit (by decide) (by decide) (by decide)) (by decide) (by decide) (dcV okX10_strengthAt rfl) (fun hf => ?_) (fun hf => PoC_x hf (kT K) (kC K) hK.2.1 rfl)
  have h8 : tq (kS K) x < gsc (kS K) := fStm_i hf
  have h9 : tq (kS K) x < 6 := Nat.lt_of_lt_of_le h8 hK.1.2.2.1
  refine B.run okX10_strengthAt [] 60 ?_
  exact ⟨vp_in_nI h9 (by decide), rCo hf (by rw [nI_clamp (Nat.lt_trans h9 (by decide))]) (kT K) (kC K) hK.2.1⟩
theorem m_cancelStorm (K : KS') (hK : WK K) (x : Int32) : Sp 12 12 700 mX10_cancelStorm [vR 0 0, vI x] (world K) (PoC (fStm (kS K) x) (some (vI (gsg (kS K) (tq (kS K) x)))) (chg K (eCan (kS K) x)) (K)) := by
  refine Sp.of' false (fun h => by cases h) (by decide) rfl rfl (Nat.le_of_ble_eq_true rfl) fun γ σ B => ?_
  refine B.run okX10_cancelStorm [] 60 ?_
  refine At.fI [vI x] [] B.1 B.2.1 (s_positionOfStorm K hK x) kX10_positionOfStorm ln_X10_181 (B.fit (by decide) (by decide) (by decide)) (by decide) (by decide) (dcV okX10_cancelStorm rfl) (fun hf => ?_) (fun hf => PoC_x hf (kT K) (kC K) hK.2.1 rfl)
  have h8 := fStm_i hf
  refine B.run okX10_cancelStorm [] 60 ?_
  refine At.wV (fe_H K (keepH (kH K) (kS K))) [vR 34 0] [] B.1 (s_keep (kH K) (kS K) hK.2.2.2.2.1 hK.2.2.2.2.2.1 hK.1.2.2.2.2.1) kX4_keep ln_X10_61 (B.fit (by decide) (by decide) (by decide)) (dcV okX10_cancelStorm rfl) ?_
  refine B.run okX10_cancelStorm [] 60 ?_
  refine At.wV (fe_wS (stH K (keepH (kH K) (kS K))) (eCan (kS K) x).2.2.1) [vI (nI (tq (kS K) x))] [] B.1 (s_removeAt (gsc (kS K)) hK.1.2.2.1 _ _ _ _ (tq (kS K) x) h8) kX9_removeAt ln_X10_184 (B.fit (by decide) (by decide) (by decide)) (dcV okX10_cancelStorm rfl) ?_
  refine B.run okX10_cancelStorm [] 60 ?_
  exact rCo hf rfl (kT K) (kC K) hK.2.1
def fNxt (S : SH) : Nat := if gsc S = 0 then 4 else 0
theorem m_nextStorm (K : KS') (hK : WK K) : Sp 12 12 700 mX10_nextStorm [vR 0 0] (world K) (PoC (fNxt (kS K)) (some (vI (gmi (kS K) 0))) (K) (K)) := by
  refine Sp.of' false (fun h => by cases h) (by decide) rfl rfl (Nat.le_of_ble_eq_true rfl) fun γ σ B => ?_
  refine B.run okX10_nextStorm [] 60 ?_
  constructor
  · intro h
    have h := nz_of hK.1.2.2.1 (by decide) h
    exact B.thrNW okX10_nextStorm T_N ex_300 (PoC_n (m := 4) (by unfold fNxt; exact if_pos h) (by decide) rfl (kT K) (kC K) hK.2.1 rfl) (by decide) (by decide) (by decide)
  · intro h
    have h : ¬ gsc (kS K) = 0 := fun q => h (by rw [q]; rfl)
    exact ⟨vp_in_nI (n := 0) (by decide) (by decide), rCo (by unfold fNxt; exact if_neg h) rfl (kT K) (kC K) hK.2.1⟩
def fFlag (m : Nat) (x : Int32) : Nat := if x = 0 then m else 0