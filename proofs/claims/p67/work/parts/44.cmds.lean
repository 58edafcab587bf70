/-! ===== the changes ===== -/
def pq (S : SH) (x : Int32) : Nat := fst (eqB (gid S) x) (gp S)
def tq (S : SH) (x : Int32) : Nat := fst (eqB (gmi S) x) (gsc S)
def eAdd (S : SH) (x y : Int32) : SH := stHo S (gc S + 1, upd (gar S) (gc S) x, upd (gcp S) (gc S) y, upd (gw S) (gc S) 0, upd (gl S) (gc S) 0, upd (gu S) (gc S) 5, gg S)
def ePut (S : SH) (x y : Int32) : SH := stCa S (gp S + 1, gnx S + 1, upd (gid S) (gp S) (gnx S), upd (gwt S) (gp S) y, upd (gpl S) (gp S) x)
def eRem (S : SH) (x : Int32) : SH := stCa S (gp S - 1, gnx S, shl (gid S) (pq S x) (gp S - 1), shl (gwt S) (pq S x) (gp S - 1), shl (gpl S) (pq S x) (gp S - 1))
def eCar (S : SH) (x y : Int32) : SH := stCa S (gp S, gnx S, gid S, gwt S, upd (gpl S) (pq S x) y)
def eLk (S : SH) (x y : Int32) : SH := stHo S (gc S, gar S, gcp S, gw S, upd (gl S) x.toNatClampNeg y, gu S, gg S)
def eGu (S : SH) (x y : Int32) : SH := stHo S (gc S, gar S, gcp S, gw S, gl S, upd (gu S) x.toNatClampNeg y, gg S)
def eMovN (S : SH) (s t : Nat) (a : Int32) : SH := stHo S (gc S, gar S, gcp S, upd (upd (gw S) s (gw S s - a)) t (upd (gw S) s (gw S s - a) t + a), gl S, gu S, gg S)
def eMov (S : SH) (x y a : Int32) : SH := eMovN S x.toNatClampNeg y.toNatClampNeg a
def ePow (S : SH) (x : Int32) : SH := (S.1, S.2.1, S.2.2.1, gmn S, x, S.2.2.2.2.2)
def eLim (S : SH) (x : Int32) : SH := (S.1, S.2.1, S.2.2.1, gmn S, gpw S, x, S.2.2.2.2.2.2)
def eSch (S : SH) (x y : Int32) : SH := stSt S (gsc S + 1, upd (shr (gmi S) (insP (gmi S) x (gsc S)) (gsc S)) (insP (gmi S) x (gsc S)) x, upd (shr (gsg S) (insP (gmi S) x (gsc S)) (gsc S)) (insP (gmi S) x (gsc S)) y, glc S, glg S)
def eCan (S : SH) (x : Int32) : SH := stSt S (gsc S - 1, shl (gmi S) (tq S x) (gsc S - 1), shl (gsg S) (tq S x) (gsc S - 1), glc S, glg S)
def ePas (S : SH) (x : Int32) : SH := tks x.toNatClampNeg S
abbrev chg (K : KS') (S : SH) : KS' := stS (stH K (keepH (kH K) (kS K))) S
theorem eMov_n {S : SH} {s t : Nat} {a : Int32} (hs : s < 8) (ht : t < 8) : eMov S (nI s) (nI t) a = eMovN S s t a := by
  unfold eMov
  rw [nI_clamp (by omega), nI_clamp (by omega)]
theorem wi_of {x : Int32} {a b : Int32} {n : Nat} (h : wiB x a b = true) (ha : 0 ≤ a) (hb : b.toInt = n) : ∃ N, N ≤ n ∧ x = nI N := by
  unfold wiB at h
  simp only [Bool.and_eq_true, decide_eq_true_eq] at h
  refine nI_of2 hb (fun q => ?_) h.2
  exact Int32.not_lt.mpr (Int32.le_trans ha h.1) q
theorem fAdd_i (S : SH) (x y : Int32) : fAdd S x y < 5 ∧ (fAdd S x y = 0 → gc S < 8) := by
  unfold fAdd
  split
  · split
    · rename_i h; exact ⟨by decide, fun _ => h⟩
    · exact ⟨by decide, fun h => by cases h⟩
  · exact ⟨by decide, fun h => by cases h⟩
theorem fLoad_i (S : SH) (x y : Int32) : fLoad S x y < 5 ∧ (fLoad S x y = 0 → hsB (gc S) x = true ∧ gp S < 16) := by
  unfold fLoad
  split
  · rename_i h1
    split
    · split
      · rename_i h; exact ⟨by decide, fun _ => ⟨h1, h.1⟩⟩
      · exact ⟨by decide, fun h => by cases h⟩
    · exact ⟨by decide, fun h => by cases h⟩
  · exact ⟨by decide, fun h => by cases h⟩
theorem fUnl_i (S : SH) (x : Int32) : fUnl S x < 5 ∧ (fUnl S x = 0 → pq S x < gp S) := by
  unfold fUnl
  split
  · rename_i h; exact ⟨by decide, fun _ => h⟩
  · exact ⟨by decide, fun h => by cases h⟩
theorem fShf_i (S : SH) (x y : Int32) : fShf S x y < 5 ∧ (fShf S x y = 0 → pq S x < gp S ∧ hsB (gc S) y = true) := by
  unfold fShf
  split
  · rename_i h1
    split
    · rename_i h2
      split
      · exact ⟨by decide, fun h => by cases h⟩
      · exact ⟨by decide, fun _ => ⟨h1, h2⟩⟩
    · exact ⟨by decide, fun h => by cases h⟩
  · exact ⟨by decide, fun h => by cases h⟩
theorem fRat_i (S : SH) (x y : Int32) : fRat S x y < 5 ∧ (fRat S x y = 0 → hsB (gc S) x = true) := by
  unfold fRat
  split
  · rename_i h1
    split
    · exact ⟨by decide, fun _ => h1⟩
    · exact ⟨by decide, fun h => by cases h⟩
  · exact ⟨by decide, fun h => by cases h⟩
theorem fMov_i (S : SH) (x y a : Int32) : fMov S x y a < 5 ∧ (fMov S x y a = 0 → hsB (gc S) x = true ∧ hsB (gc S) y = true) := by
  unfold fMov
  split
  · rename_i h1
    simp only [Bool.and_eq_true] at h1
    split
    · split
      · exact ⟨by decide, fun _ => h1⟩
      · exact ⟨by decide, fun h => by cases h⟩
    · exact ⟨by decide, fun h => by cases h⟩
  · exact ⟨by decide, fun h => by cases h⟩
theorem fPow_i (x : Int32) : fPow x < 5 := by
  unfold fPow
  split <;> decide
theorem fAmt_i (x : Int32) : fAmt x < 5 := by
  unfold fAmt
  split <;> decide
theorem fSch_i (S : SH) (x y : Int32) : fSch S x y < 5 ∧ (fSch S x y = 0 → gsc S < 6) := by
  unfold fSch
  split
  · split
    · rename_i h; exact ⟨by decide, fun _ => h.2⟩
    · exact ⟨by decide, fun h => by cases h⟩
  · exact ⟨by decide, fun h => by cases h⟩
theorem fPas_i (S : SH) (x : Int32) : fPas S x < 5 ∧ (fPas S x = 0 → ∃ N, N ≤ 120 ∧ x = nI N) := by
  unfold fPas
  split
  · rename_i h1
    split
    · exact ⟨by decide, fun _ => wi_of h1 (by decide) rfl⟩
    · exact ⟨by decide, fun h => by cases h⟩
  · exact ⟨by decide, fun h => by cases h⟩
theorem m_addCompartment (K : KS') (hK : WK K) (x y : Int32) : Sp 12 12 700 mX10_addCompartment [vR 0 0, vI x, vI y] (world K) (PoC (fAdd (kS K) x y) (some (vI (nI (gc (kS K))))) (chg K (eAdd (kS K) x y)) K) := by
  refine Sp.of' false (fun h => by cases h) (by decide) rfl rfl (Nat.le_of_ble_eq_true rfl) fun γ σ B => ?_
  refine B.run okX10_addCompartment [] 60 ?_
  refine At.wV (fe_S K (kS K)) [vI x, vI y] [] B.1 (s_fAdd (kS K) hK.1 x y) kX8_faultOfAdding ln_X10_53 (B.fit (by decide) (by decide) (by decide)) (dcV okX10_addCompartment rfl) ?_
  show At γ σ 0 0 9 [(0, vR 0 0), (1, vI x), (2, vI y)] [vK (fAdd (kS K) x y)] (world K)
  refine At.fS [] [vK (fAdd (kS K) x y)] [] B.1 B.2.1 (s_refuse _ ((fAdd_i (kS K) x y).1)) kX10_refuse ln_X10_57 trivial (B.fit (by decide) (by decide) (by decide)) (by decide) (by decide) (dcS okX10_addCompartment rfl) (fun hf => ?_) (fun hf => PoC_x hf (kT K) (kC K) hK.2.1 rfl)
  have h8 := (fAdd_i (kS K) x y).2 hf
  refine B.run okX10_addCompartment [] 60 ?_
  refine At.wV (fe_H K (keepH (kH K) (kS K))) [vR 34 0] [] B.1 (s_keep (kH K) (kS K) hK.2.2.2.2.1 hK.2.2.2.2.2.1 hK.1.2.2.2.2.1) kX4_keep ln_X10_61 (B.fit (by decide) (by decide) (by decide)) (dcV okX10_addCompartment rfl) ?_
  refine B.run okX10_addCompartment [] 60 ?_
  refine At.wV (fe_hS (stH K (keepH (kH K) (kS K))) (eAdd (kS K) x y).1) [vI x, vI y] [] B.1 (s_add (gc (kS K)) h8 _ _ _ _ _ _ x y) kX5_add ln_X10_69 (B.fit (by decide) (by decide) (by decide)) (dcV okX10_addCompartment rfl) ?_
  refine B.run okX10_addCompartment [] 60 ?_
  exact rCo hf rfl (kT K) (kC K) hK.2.1
theorem m_load (K : KS') (hK : WK K) (x y : Int32) : Sp 12 12 700 mX10_load [vR 0 0, vI x, vI y] (world K) (PoC (fLoad (kS K) x y) (some (vI (gnx (kS K)))) (chg K (ePut (kS K) x y)) K) := by
  refine Sp.of' false (fun h => by cases h) (by decide) rfl rfl (Nat.le_of_ble_eq_true rfl) fun γ σ B => ?_
  refine B.run okX10_load [] 60 ?_
  refine At.wV (fe_S K (kS K)) [vI x, vI y] [] B.1 (s_fLoad (kS K) hK.1 x y) kX8_faultOfLoading ln_X10_75 (B.fit (by decide) (by decide) (by decide)) (dcV okX10_load rfl) ?_
  show At γ σ 0 0 9 [(0, vR 0 0), (1, vI x), (2, vI y)] [vK (fLoad (kS K) x y)] (world K)
  refine At.fS [] [vK (fLoad (kS K) x y)] [] B.1 B.2.1 (s_refuse _ ((fLoad_i (kS K) x y).1)) kX10_refuse ln_X10_57 trivial (B.fit (by decide) (by decide) (by decide)) (by decide) (by decide) (dcS okX10_load rfl) (fun hf => ?_) (fun hf => PoC_x hf (kT K) (kC K) hK.2.1 rfl)
  have h8 := ((fLoad_i (kS K) x y).2 hf).2
  refine B.run okX10_load [] 60 ?_
  refine At.wV (fe_H K (keepH (kH K) (kS K))) [vR 34 0] [] B.1 (s_keep (kH K) (kS K) hK.2.2.2.2.1 hK.2.2.2.2.2.1 hK.1.2.2.2.2.1) kX4_keep ln_X10_61 (B.fit (by decide) (by decide) (by decide)) (dcV okX10_load rfl) ?_
  refine B.run okX10_load [] 60 ?_
  refine At.wV (fe_gS (stH K (keepH (kH K) (kS K))) (ePut (kS K) x y).2.1) [vI x, vI y] [] B.1 (s_put (gp (kS K)) h8 _ _ _ _ x y) kX1_put ln_X10_82 (B.fit (by decide) (by decide) (by decide)) (dcV okX10_load rfl) ?_
  refine B.run okX10_load [] 60 ?_
  exact rCo hf rfl (kT K) (kC K) hK.2.1
theorem m_unload (K : KS') (hK : WK K) (x : Int32) : Sp 12 12 700 mX10_unload [vR 0 0, vI x] (world K) (PoC (fUnl (kS K) x) (some (vI (gwt (kS K) (pq (kS K) x)))) (chg K (eRem (kS K) x)) K) := by
  refine Sp.of' false (fun h => by cases h) (by decide) rfl rfl (Nat.le_of_ble_eq_true rfl) fun γ σ B => ?_
  refine B.run okX10_unload [] 60 ?_
  refine At.wV (fe_S K (kS K)) [vI x] [] B.1 (s_fUnl (kS K) hK.1 x) kX8_faultOfUnloading ln_X10_87 (B.fit (by decide) (by decide) (by decide)) (dcV okX10_unload rfl) ?_
  show At γ σ 0 0 8 [(0, vR 0 0), (1, vI x)] [vK (fUnl (kS K) x)] (world K)
  refine At.fS [] [vK (fUnl (kS K) x)] [] B.1 B.2.1 (s_refuse _ ((fUnl_i (kS K) x).1)) kX10_refuse ln_X10_57 trivial (B.fit (by decide) (by decide) (by decide)) (by decide) (by decide) (dcS okX10_unload rfl) (fun hf => ?_) (fun hf => PoC_x hf (kT K) (kC K) hK.2.1 rfl)
  have h8 := (fUnl_i (kS K) x).2 hf
  refine B.run okX10_unload [] 60 ?_
  refine At.wV (fe_H K (keepH (kH K) (kS K))) [vR 34 0] [] B.1 (s_keep (kH K) (kS K) hK.2.2.2.2.1 hK.2.2.2.2.2.1 hK.1.2.2.2.2.1) kX4_keep ln_X10_61 (B.fit (by decide) (by decide) (by decide)) (dcV okX10_unload rfl) ?_
  refine B.run okX10_unload [] 60 ?_
  refine At.wV (fe_gS (stH K (keepH (kH K) (kS K))) (eRem (kS K) x).2.1) [vI x] [] B.1 (s_cremove (gp (kS K)) hK.1.2.1 _ _ _ _ x h8) kX1_remove ln_X10_91 (B.fit (by decide) (by decide) (by decide)) (dcV okX10_unload rfl) ?_
  refine B.run okX10_unload [] 60 ?_
  exact rCo hf rfl (kT K) (kC K) hK.2.1
theorem m_shift (K : KS') (hK : WK K) (x y : Int32) : Sp 12 12 700 mX10_shift [vR 0 0, vI x, vI y] (world K) (PoC (fShf (kS K) x y) (some (vI (gpl (kS K) (pq (kS K) x)))) (chg K (eCar (kS K) x y)) K) := by
  refine Sp.of' false (fun h => by cases h) (by decide) rfl rfl (Nat.le_of_ble_eq_true rfl) fun γ σ B => ?_
  refine B.run okX10_shift [] 60 ?_
  refine At.wV (fe_S K (kS K)) [vI x, vI y] [] B.1 (s_fShf (kS K) hK.1 x y) kX8_faultOfShifting ln_X10_95 (B.fit (by decide) (by decide) (by decide)) (dcV okX10_shift rfl) ?_
  show At γ σ 0 0 9 [(0, vR 0 0), (1, vI x), (2, vI y)] [vK (fShf (kS K) x y)] (world K)
  refine At.fS [] [vK (fShf (kS K) x y)] [] B.1 B.2.1 (s_refuse _ ((fShf_i (kS K) x y).1)) kX10_refuse ln_X10_57 trivial (B.fit (by decide) (by decide) (by decide)) (by decide) (by decide) (dcS okX10_shift rfl) (fun hf => ?_) (fun hf => PoC_x hf (kT K) (kC K) hK.2.1 rfl)
  have h8 := ((fShf_i (kS K) x y).2 hf).1
  refine B.run okX10_shift [] 60 ?_
  refine At.wV (fe_H K (keepH (kH K) (kS K))) [vR 34 0] [] B.1 (s_keep (kH K) (kS K) hK.2.2.2.2.1 hK.2.2.2.2.2.1 hK.1.2.2.2.2.1) kX4_keep ln_X10_61 (B.fit (by decide) (by decide) (by decide)) (dcV okX10_shift rfl) ?_
  refine B.run okX10_shift [] 60 ?_
  refine At.wV (fe_gS (stH K (keepH (kH K) (kS K))) (eCar (kS K) x y).2.1) [vI x, vI y] [] B.1 (s_carry (gp (kS K)) hK.1.2.1 _ _ _ _ x y h8) kX1_carry ln_X10_98 (B.fit (by decide) (by decide) (by decide)) (dcV okX10_shift rfl) ?_
  refine B.run okX10_shift [] 60 ?_
  exact rCo hf rfl (kT K) (kC K) hK.2.1
theorem m_setLeak (K : KS') (hK : WK K) (x y : Int32) : Sp 12 12 700 mX10_setLeak [vR 0 0, vI x, vI y] (world K) (PoC (fRat (kS K) x y) (some (vI (gl (kS K) x.toNatClampNeg))) (chg K (eLk (kS K) x y)) K) := by
  refine Sp.of' false (fun h => by cases h) (by decide) rfl rfl (Nat.le_of_ble_eq_true rfl) fun γ σ B => ?_
  refine B.run okX10_setLeak [] 60 ?_
  refine At.wV (fe_S K (kS K)) [vI x, vI y] [] B.1 (s_fRat (kS K) hK.1 x y) kX8_faultOfRate ln_X10_101 (B.fit (by decide) (by decide) (by decide)) (dcV okX10_setLeak rfl) ?_
  show At γ σ 0 0 9 [(0, vR 0 0), (1, vI x), (2, vI y)] [vK (fRat (kS K) x y)] (world K)
  refine At.fS [] [vK (fRat (kS K) x y)] [] B.1 B.2.1 (s_refuse _ ((fRat_i (kS K) x y).1)) kX10_refuse ln_X10_57 trivial (B.fit (by decide) (by decide) (by decide)) (by decide) (by decide) (dcS okX10_setLeak rfl) (fun hf => ?_) (fun hf => PoC_x hf (kT K) (kC K) hK.2.1 rfl)
  have h8 := (fRat_i (kS K) x y).2 hf
  have hi : vp_in x 8 := by
    obtain ⟨j, hj, rfl⟩ := hs_of (Nat.le_trans hK.1.1 (by decide)) h8
    exact vp_in_nI (Nat.lt_of_lt_of_le hj hK.1.1) (by decide)
  refine B.run okX10_setLeak [] 60 ?_
  refine At.wV (fe_H K (keepH (kH K) (kS K))) [vR 34 0] [] B.1 (s_keep (kH K) (kS K) hK.2.2.2.2.1 hK.2.2.2.2.2.1 hK.1.2.2.2.2.1) kX4_keep ln_X10_61 (B.fit (by decide) (by decide) (by decide)) (dcV okX10_setLeak rfl) ?_
  refine B.run okX10_setLeak [] 60 ?_
  exact ⟨hi, hi, rCo hf rfl (kT K) (kC K) hK.2.1⟩
theorem m_setPump (K : KS') (hK : WK K) (x y : Int32) : Sp 12 12 700 mX10_setPump [vR 0 0, vI x, vI y] (world K) (PoC (fRat (kS K) x y) (some (vI (gu (kS K) x.toNatClampNeg))) (chg K (eGu (kS K) x y)) K) := by
  refine Sp.of' false (fun h => by cases h) (by decide) rfl rfl (Nat.le_of_ble_eq_true rfl) fun γ σ B => ?_
  refine B.run okX10_setPump [] 60 ?_
  refine At.wV (fe_S K (kS K)) [vI x, vI y] [] B.1 (s_fRat (kS K) hK.1 x y) kX8_faultOfRate ln_X10_101 (B.fit (by decide) (by decide) (by decide)) (dcV okX10_setPump rfl) ?_
  show At γ σ 0 0 9 [(0, vR 0 0), (1, vI x), (2, vI y)] [vK (fRat (kS K) x y)] (world K)
  refine At.fS [] [vK (fRat (kS K) x y)] [] B.1 B.2.1 (s_refuse _ ((fRat_i (kS K) x y).1)) kX10_refuse ln_X10_57 trivial (B.fit (by decide) (by decide) (by decide)) (by decide) (by decide) (dcS okX10_setPump rfl) (fun hf => ?_) (fun hf => PoC_x hf (kT K) (kC K) hK.2.1 rfl)
  have h8 := (fRat_i (kS K) x y).2 hf
  have hi : vp_in x 8 := by
    obtain ⟨j, hj, rfl⟩ := hs_of (Nat.le_trans hK.1.1 (by decide)) h8
    exact vp_in_nI (Nat.lt_of_lt_of_le hj hK.1.1) (by decide)
  refine B.run okX10_setPump [] 60 ?_
  refine At.wV (fe_H K (keepH (kH K) (kS K))) [vR 34 0] [] B.1 (s_keep (kH K) (kS K) hK.2.2.2.2.1 hK.2.2.2.2.2.1 hK.1.2.2.2.2.1) kX4_keep ln_X10_61 (B.fit (by decide) (by decide) (by decide)) (dcV okX10_setPump rfl) ?_
  refine B.run okX10_setPump [] 60 ?_
  exact ⟨hi, hi, rCo hf rfl (kT K) (kC K) hK.2.1⟩
theorem m_setPower (K : KS') (hK : WK K) (x : Int32) : Sp 12 12 700 mX10_setPower [vR 0 0, vI x] (world K) (PoC (fPow x) (some (vI (gpw (kS K)))) (chg K (ePow (kS K) x)) K) := by
  refine Sp.of' false (fun h => by cases h) (by decide) rfl rfl (Nat.le_of_ble_eq_true rfl) fun γ σ B => ?_
  refine B.run okX10_setPower [] 60 ?_
  refine At.wV (fe_S K (kS K)) [vI x] [] B.1 (s_fPow (kS K) x) kX8_faultOfPower ln_X10_148 (B.fit (by decide) (by decide) (by decide)) (dcV okX10_setPower rfl) ?_
  show At γ σ 0 0 8 [(0, vR 0 0), (1, vI x)] [vK (fPow x)] (world K)
  refine At.fS [] [vK (fPow x)] [] B.1 B.2.1 (s_refuse _ (fPow_i x)) kX10_refuse ln_X10_57 trivial (B.fit (by decide) (by decide) (by decide)) (by decide) (by decide) (dcS okX10_setPower rfl) (fun hf => ?_) (fun hf => PoC_x hf (kT K) (kC K) hK.2.1 rfl)
  refine B.run okX10_setPower [] 60 ?_
  refine At.wV (fe_H K (keepH (kH K) (kS K))) [vR 34 0] [] B.1 (s_keep (kH K) (kS K) hK.2.2.2.2.1 hK.2.2.2.2.2.1 hK.1.2.2.2.2.1) kX4_keep ln_X10_61 (B.fit (by decide) (by decide) (by decide)) (dcV okX10_setPower rfl) ?_
  refine B.run okX10_setPower [] 60 ?_
  exact ⟨trivial, rCo hf rfl (kT K) (kC K) hK.2.1⟩
theorem m_schedule (K : KS') (hK : WK K) (x y : Int32) : Sp 12 12 700 mX10_schedule [vR 0 0, vI x, vI y] (world K) (PoC (fSch (kS K) x y) (some (vI (nI (gsc (kS K) + 1)))) (chg K (eSch (kS K) x y)) K) := by
  refine Sp.of' false (fun h => by cases h) (by decide) rfl rfl (Nat.le_of_ble_eq_true rfl) fun γ σ B => ?_
  refine B.run okX10_schedule [] 60 ?_
  refine At.wV (fe_S K (kS K)) [vI x, vI y] [] B.1 (s_fSch (kS K) hK.1 x y) kX8_faultOfScheduling ln_X10_166 (B.fit (by decide) (by decide) (by decide)) (dcV okX10_schedule rfl) ?_
  show At γ σ 0 0 9 [(0, vR 0 0), (1, vI x), (2, vI y)] [vK (fSch (kS K) x y)] (world K)
  refine At.fS [] [vK (fSch (kS K) x y)] [] B.1 B.2.1 (s_refuse _ ((fSch_i (kS K) x y).1)) kX10_refuse ln_X10_57 trivial (B.fit (by decide) (by decide) (by decide)) (by decide) (by decide) (dcS okX10_schedule rfl) (fun hf => ?_) (fun hf => PoC_x hf (kT K) (kC K) hK.2.1 rfl)
  have h8 := (fSch_i (kS K) x y).2 hf
  refine B.run okX10_schedule [] 60 ?_
  refine At.wV (fe_H K (keepH (kH K) (kS K))) [vR 34 0] [] B.1 (s_keep (kH K) (kS K) hK.2.2.2.2.1 hK.2.2.2.2.2.1 hK.1.2.2.2.2.1) kX4_keep ln_X10_61 (B.fit (by decide) (by decide) (by decide)) (dcV okX10_schedule rfl) ?_
  refine B.run okX10_schedule [] 60 ?_
  refine At.wV (fe_wS (stH K (keepH (kH K) (kS K))) (eSch (kS K) x y).2.2.1) [vI x, vI y] [] B.1 (s_tadd (gsc (kS K)) h8 _ _ _ _ x y) kX9_add ln_X10_173 (B.fit (by decide) (by decide) (by decide)) (dcV okX10_schedule rfl) ?_
  refine B.run okX10_schedule [] 60 ?_
  exact rCo hf rfl (kT K) (kC K) hK.2.1
theorem m_pass (K : KS') (hK : WK K) (x : Int32) : Sp 12 12 700 mX10_pass [vR 0 0, vI x] (world K) (PoC (fPas (kS K) x) (some (vI (nI (tkc x.toNatClampNeg (kS K))))) (chg K (ePas (kS K) x)) K) := by
  refine Sp.of' false (fun h => by cases h) (by decide) rfl rfl (Nat.le_of_ble_eq_true rfl) fun γ σ B => ?_
  refine B.run okX10_pass [] 60 ?_
  refine At.wV (fe_S K (kS K)) [vI x] [] B.1 (s_fPas (kS K) x) kX8_faultOfPassing ln_X10_187 (B.fit (by decide) (by decide) (by decide)) (dcV okX10_pass rfl) ?_
  show At γ σ 0 0 8 [(0, vR 0 0), (1, vI x)] [vK (fPas (kS K) x)] (world K)
  refine At.fS [] [vK (fPas (kS K) x)] [] B.1 B.2.1 (s_refuse _ ((fPas_i (kS K) x).1)) kX10_refuse ln_X10_57 trivial (B.fit (by decide) (by decide) (by decide)) (by decide) (by decide) (dcS okX10_pass rfl) (fun hf => ?_) (fun hf => PoC_x hf (kT K) (kC K) hK.2.1 rfl)
  obtain ⟨N, hN, rfl⟩ := (fPas_i (kS K) x).2 hf
  have eN : (nI N).toNatClampNeg = N := nI_clamp (by omega)
  refine B.run okX10_pass [] 60 ?_
  refine At.wV (fe_H K (keepH (kH K) (kS K))) [vR 34 0] [] B.1 (s_keep (kH K) (kS K) hK.2.2.2.2.1 hK.2.2.2.2.2.1 hK.1.2.2.2.2.1) kX4_keep ln_X10_61 (B.fit (by decide) (by decide) (by decide)) (dcV okX10_pass rfl) ?_
  refine B.run okX10_pass [] 60 ?_
  refine At.wV (fe_S (stH K (keepH (kH K) (kS K))) (tks N (kS K))) [vI (nI N)] [] B.1 (s_letPass (kS K) hK.1 N hN) kX8_letPass ln_X10_190 (B.fit (by decide) (by decide) (by decide)) (dcV okX10_pass rfl) ?_
  refine B.run okX10_pass [] 60 ?_
  exact rCo hf (by rw [eN]) (kT K) (kC K) hK.2.1 (by unfold ePas; rw [eN])
theorem m_transfer (K : KS') (hK : WK K) (x y a : Int32) : Sp 12 12 700 mX10_transfer [vR 0 0, vI x, vI y, vI a] (world K) (PoC (fMov (kS K) x y a) (some (vI (tmI (eMov (kS K) x y a)))) (chg K (eMov (kS K) x y a)) K) := by
  refine Sp.of' false (fun h => by cases h) (by decide) rfl rfl (Nat.le_of_ble_eq_true rfl) fun γ σ B => ?_
  refine B.run okX10_transfer [] 60 ?_
  refine At.wV (fe_S K (kS K)) [vI x, vI y, vI a] [] B.1 (s_fMov (kS K) hK.1 x y a) kX8_faultOfMoving ln_X10_111 (B.fit (by decide) (by decide) (by decide)) (dcV okX10_transfer rfl) ?_
  show At γ σ 0 0 10 [(0, vR 0 0), (1, vI x), (2, vI y), (3, vI a)] [vK (fMov (kS K) x y a)] (world K)
  refine At.fS [] [vK (fMov (kS K) x y a)] [] B.1 B.2.1 (s_refuse _ ((fMov_i (kS K) x y a).1)) kX10_refuse ln_X10_57 trivial (B.fit (by decide) (by decide) (by decide)) (by decide) (by decide) (dcS okX10_transfer rfl) (fun hf => ?_) (fun hf => PoC_x hf (kT K) (kC K) hK.2.1 rfl)
  have h8 := (fMov_i (kS K) x y a).2 hf
  have hc8 := hK.1.1
  obtain ⟨s, hs, rfl⟩ := hs_of (Nat.le_trans hK.1.1 (by decide)) h8.1
  obtain ⟨t, ht, rfl⟩ := hs_of (Nat.le_trans hK.1.1 (by decide)) h8.2
  have em : eMov (kS K) (nI s) (nI t) a = eMovN (kS K) s t a := eMov_n (by omega) (by omega)
  refine B.run okX10_transfer [] 60 ?_
  refine At.wV (fe_H K (keepH (kH K) (kS K))) [vR 34 0] [] B.1 (s_keep (kH K) (kS K) hK.2.2.2.2.1 hK.2.2.2.2.2.1 hK.1.2.2.2.2.1) kX4_keep ln_X10_61 (B.fit (by decide) (by decide) (by decide)) (dcV okX10_transfer rfl) ?_
  refine B.run okX10_transfer [] 60 ?_
  refine At.wV (fe_hS (stH K (keepH (kH K) (kS K))) (eMovN (kS K) s t a).1) [vI (nI s), vI (nI t), vI a] [] B.1 (s_move (nI (gc (kS K))) _ _ _ _ _ _ s t (by omega) (by omega) a) kX5_move ln_X10_115 (B.fit (by decide) (by decide) (by decide)) (dcV okX10_transfer rfl) ?_
  refine B.run okX10_transfer [] 60 ?_
  refine At.wV (fe_S (chg K (eMovN (kS K) s t a)) (eMovN (kS K) s t a)) [] [] B.1 (s_totalMoment (eMovN (kS K) s t a) hK.1) kX8_totalMoment ln_X10_119 (B.fit (by decide) (by decide) (by decide)) (dcV okX10_transfer rfl) ?_
  refine B.run okX10_transfer [] 60 ?_
  exact rCo hf (by rw [em]) (kT K) (kC K) hK.2.1 (by rw [em])
def fLim (x : Int32) : Nat := if wiB x 1 9 = true then 0 else 2
theorem m_setLimit (K : KS') (hK : WK K) (x : Int32) : Sp 12 12 700 mX10_setLimit [vR 0 0, vI x] (world K) (PoC (fLim x) (some (vI (glm (kS K)))) (chg K (eLim (kS K) x)) K) := by
  refine Sp.of' false (fun h => by cases h) (by decide) rfl rfl (Nat.le_of_ble_eq_true rfl) fun γ σ B => ?_
  refine B.run okX10_setLimit [] 60 ?_
  refine At.cSI [] [vI x, vI 1, vI 9] [] B.1 (s_isWithin x 1 9) kX10_isWithin ln_X10_154 trivial (B.fit (by decide) (by decide) (by decide)) (dcS okX10_setLimit rfl) ?_
  refine B.run okX10_setLimit [] 60 ?_
  constructor
  · intro h
    have h := b2_eq0.mp h
    exact B.thr okX10_setLimit T_A ex_165 (PoC_n (m := 2) (by unfold fLim; rw [h]; rfl) (by decide) rfl (kT K) (kC K) hK.2.1 rfl) (by decide) (by decide) (by decide)
  · intro h
    have h := b2_ne0.mp h
    have hf : fLim x = 0 := by unfold fLim; rw [if_pos h]
    refine B.run okX10_setLimit [] 60 ?_
    refine At.wV (fe_H K (keepH (kH K) (kS K))) [vR 34 0] [] B.1 (s_keep (kH K) (kS K) hK.2.2.2.2.1 hK.2.2.2.2.2.1 hK.1.2.2.2.2.1) kX4_keep ln_X10_61 (B.fit (by decide) (by decide) (by decide)) (dcV okX10_setLimit rfl) ?_
    refine B.run okX10_setLimit [] 60 ?_
    exact ⟨trivial, rCo hf rfl (kT K) (kC K) hK.2.1⟩
