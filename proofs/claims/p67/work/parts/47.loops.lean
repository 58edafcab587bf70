/-! ===== reads with loops, advice repeated, means ===== -/
def pAt (S : SH) (x : Int32) (i : Nat) : Bool := cpB (gu S) (gw S) i && decide (nI (rkN (gu S) (gw S) i (gc S)) = x)
def lAt (S : SH) (x : Int32) (i : Nat) : Bool := decide (nI (ctB (fun k => lbB S k i) (gc S)) = x)
def fFst (p : Nat → Bool) (n : Nat) : Nat := if fst p n < n then 0 else 4
theorem m_pumpAt (K : KS') (hK : WK K) (x : Int32) : Sp 12 12 700 mX10_pumpAt [vR 0 0, vI x] (world K) (PoC (fFst (pAt (kS K) x) (gc (kS K))) (some (vI (nI (fst (pAt (kS K) x) (gc (kS K)))))) (K) (K)) := by
  refine Sp.of' false (fun h => by cases h) (by decide) rfl rfl (Nat.le_of_ble_eq_true rfl) fun γ σ B => ?_
  have hc8 := hK.1.1
  have loop : ∀ (m i : Nat), i + m = gc (kS K) → (∀ k, k < i → pAt (kS K) x k = false) → At γ σ 0 0 2 [(0, vR 0 0), (1, vI x), (2, vI (nI i))] [] (world K) := by
    intro m
    induction m with
    | zero =>
      intro i hi hno
      have hi : i = gc (kS K) := by omega
      subst hi
      refine B.run okX10_pumpAt [(2, [0, 1, 2])] 60 ?_
      constructor
      · intro _
        exact B.thrN okX10_pumpAt T_N ex_230 (PoC_n (m := 4) (by unfold fFst; rw [fst_none hno, if_neg (Nat.lt_irrefl _)]) (by decide) rfl (kT K) (kC K) hK.2.1 rfl) (by decide) (by decide) (by decide)
      · intro h
        exact absurd (nI_le (Nat.le_refl _) (by omega)) h
    | succ m ih =>
      intro i hi hno
      have next : pAt (kS K) x i = false → At γ σ 0 0 2 [(0, vR 0 0), (1, vI x), (2, vI (nI i + 1))] [] (world K) := by
        intro hp
        rw [nI_1]
        refine ih (i + 1) (by omega) fun k hk => ?_
        rcases Nat.lt_or_ge k i with q | q
        · exact hno k q
        · have e : k = i := by omega
          rw [e]; exact hp
      have found : pAt (kS K) x i = true → fFst (pAt (kS K) x) (gc (kS K)) = 0 ∧ fst (pAt (kS K) x) (gc (kS K)) = i := fun hp => by
        have e := fst_some hp hno (show i < gc (kS K) by omega)
        exact ⟨by unfold fFst; rw [e, if_pos (by omega)], e⟩
      refine B.run okX10_pumpAt [(2, [0, 1, 2])] 60 ?_
      constructor
      · intro h
        exact absurd h (nI_ge (by omega) (by omega))
      · intro _
        refine At.wV (fe_hS K (kS K).1) [vI (nI i)] [] B.1 (s_canPump (nI (gc (kS K))) _ _ _ _ _ _ i (by omega)) kX5_canPump ln_X10_217 (B.fit (by decide) (by decide) (by decide)) (dcV okX10_pumpAt rfl) ?_
        refine B.run okX10_pumpAt [(2, [0, 1, 2])] 60 ?_
        constructor
        · intro h
          have h := b2_eq0.mp h
          exact next (by unfold pAt; rw [h]; rfl)
        · intro h
          have h := b2_ne0.mp h
          refine B.run okX10_pumpAt [(2, [0, 1, 2])] 60 ?_
          refine At.wV (fe_hS K (kS K).1) [vI (nI i)] [] B.1 (s_pumpRank (gc (kS K)) hc8 _ _ _ _ _ _ i (by omega)) kX5_pumpRank ln_X10_220 (B.fit (by decide) (by decide) (by decide)) (dcV okX10_pumpAt rfl) ?_
          refine B.run okX10_pumpAt [(2, [0, 1, 2])] 60 ?_
          constructor
          · intro h2
            have f2 := found (by unfold pAt; rw [h, decide_eq_true h2]; rfl)
            exact rCo f2.1 (by rw [f2.2]) (kT K) (kC K) hK.2.1
          · intro h2
            exact next (by unfold pAt; rw [decide_eq_false h2, Bool.and_false])
  refine B.run okX10_pumpAt [(2, [0, 1, 2])] 60 ?_
  exact loop (gc (kS K)) 0 (by omega) (fun k hk => absurd hk (Nat.not_lt_zero _))
theorem m_compartmentByLoad (K : KS') (hK : WK K) (x : Int32) : Sp 12 12 700 mX10_compartmentByLoad [vR 0 0, vI x] (world K) (PoC (fFst (lAt (kS K) x) (gc (kS K))) (some (vI (nI (fst (lAt (kS K) x) (gc (kS K)))))) (K) (K)) := by
  refine Sp.of' false (fun h => by cases h) (by decide) rfl rfl (Nat.le_of_ble_eq_true rfl) fun γ σ B => ?_
  have hc8 := hK.1.1
  have loop : ∀ (m i : Nat), i + m = gc (kS K) → (∀ k, k < i → lAt (kS K) x k = false) → At γ σ 0 0 2 [(0, vR 0 0), (1, vI x), (2, vI (nI i))] [] (world K) := by
    intro m
    induction m with
    | zero =>
      intro i hi hno
      have hi : i = gc (kS K) := by omega
      subst hi
      refine B.run okX10_compartmentByLoad [(2, [0, 1, 2])] 60 ?_
      constructor
      · intro _
        exact B.thrN okX10_compartmentByLoad T_N ex_230 (PoC_n (m := 4) (by unfold fFst; rw [fst_none hno, if_neg (Nat.lt_irrefl _)]) (by decide) rfl (kT K) (kC K) hK.2.1 rfl) (by decide) (by decide) (by decide)
      · intro h
        exact absurd (nI_le (Nat.le_refl _) (by omega)) h
    | succ m ih =>
      intro i hi hno
      have next : lAt (kS K) x i = false → At γ σ 0 0 2 [(0, vR 0 0), (1, vI x), (2, vI (nI i + 1))] [] (world K) := by
        intro hp
        rw [nI_1]
        refine ih (i + 1) (by omega) fun k hk => ?_
        rcases Nat.lt_or_ge k i with q | q
        · exact hno k q
        · have e : k = i := by omega
          rw [e]; exact hp
      have found : lAt (kS K) x i = true → fFst (lAt (kS K) x) (gc (kS K)) = 0 ∧ fst (lAt (kS K) x) (gc (kS K)) = i := fun hp => by
        have e := fst_some hp hno (show i < gc (kS K) by omega)
        exact ⟨by unfold fFst; rw [e, if_pos (by omega)], e⟩
      refine B.run okX10_compartmentByLoad [(2, [0, 1, 2])] 60 ?_
      constructor
      · intro h
        exact absurd h (nI_ge (by omega) (by omega))
      · intro _
        refine At.wV (fe_S K (kS K)) [vI (nI i)] [] B.1 (s_loadRank (kS K) hK.1 i (by omega)) kX8_loadRank ln_X10_292 (B.fit (by decide) (by decide) (by decide)) (dcV okX10_compartmentByLoad rfl) ?_
        refine B.run okX10_compartmentByLoad [(2, [0, 1, 2])] 60 ?_
        constructor
        · intro h2
          have f2 := found (by unfold lAt; rw [decide_eq_true h2])
          exact rCo f2.1 (by rw [f2.2]) (kT K) (kC K) hK.2.1
        · intro h2
          exact next (by unfold lAt; rw [decide_eq_false h2])
  refine B.run okX10_compartmentByLoad [(2, [0, 1, 2])] 60 ?_
  exact loop (gc (kS K)) 0 (by omega) (fun k hk => absurd hk (Nat.not_lt_zero _))
def fHvy (S : SH) : Nat := if gp S = 0 then 4 else 0
theorem m_heaviestPiece (K : KS') (hK : WK K) : Sp 12 12 700 mX10_heaviestPiece [vR 0 0] (world K) (PoC (fHvy (kS K)) (some (vI (gid (kS K) (fuN (gwt (kS K)) (gp (kS K)))))) (K) (K)) := by
  refine Sp.of' false (fun h => by cases h) (by decide) rfl rfl (Nat.le_of_ble_eq_true rfl) fun γ σ B => ?_
  have hp16 := hK.1.2.1
  have loop : 0 < gp (kS K) → ∀ (m i : Nat), 0 < i → i + m = gp (kS K) → At γ σ 0 0 29 [(0, vR 0 0), (1, vR 3 0), (2, vI (nI (fuN (gwt (kS K)) i))), (3, vI (nI i))] [] (world K) := by
    intro h0 m
    induction m with
    | zero =>
      intro i hi0 hi
      have hi : i = gp (kS K) := by omega
      subst hi
      obtain ⟨j, hj⟩ : ∃ j, gp (kS K) = j + 1 := ⟨gp (kS K) - 1, by omega⟩
      have hl : fuN (gwt (kS K)) (gp (kS K)) < gp (kS K) := by rw [hj]; exact fuN_lt _ _
      refine B.run okX10_heaviestPiece [(29, [0, 1, 2, 3])] 60 ?_
      constructor
      · intro _
        exact ⟨vp_in_nI (by omega) (by decide), rCo (by unfold fHvy; rw [if_neg (by omega)]) (by rw [nI_clamp (by omega)]) (kT K) (kC K) hK.2.1⟩
      · intro h
        exact absurd (nI_le (Nat.le_refl _) (by omega)) h
    | succ m ih =>
      intro i hi0 hi
      obtain ⟨j, rfl⟩ : ∃ j, i = j + 1 := ⟨i - 1, by omega⟩
      have hl : fuN (gwt (kS K)) (j + 1) < j + 1 := fuN_lt _ _
      have e : fuN (gwt (kS K)) (j + 1 + 1) = if gwt (kS K) (fuN (gwt (kS K)) (j + 1)) < gwt (kS K) (j + 1) then j + 1 else fuN (gwt (kS K)) (j + 1) := rfl
      have next := ih (j + 1 + 1) (by omega) (by omega)
      rw [e] at next
      refine B.run okX10_heaviestPiece [(29, [0, 1, 2, 3])] 60 ?_
      constructor
      · intro h
        exact absurd h (nI_ge (by omega) (by omega))
      · intro _
        refine ⟨vp_in_nI (by omega) (by decide), vp_in_nI (by omega) (by decide), ?_⟩
        rw [nI_clamp (show j + 1 < 2 ^ 31 by omega), nI_clamp (show fuN (gwt (kS K)) (j + 1) < 2 ^ 31 by omega)]
        constructor
        · intro h
          rw [if_neg (Int32.not_lt.mpr h)] at next
          show At γ σ 0 0 29 _ _ _
          rw [nI_1]
          exact next
        · intro h
          rw [if_pos (Int32.not_le.mp h)] at next
          show At γ σ 0 0 29 _ _ _
          rw [nI_1]
          exact next
  refine B.run okX10_heaviestPiece [(29, [0, 1, 2, 3])] 60 ?_
  constructor
  · intro h
    have h := nz_of hp16 (by decide) h
    exact B.thrN okX10_heaviestPiece T_N ex_253 (PoC_n (m := 4) (by unfold fHvy; exact if_pos h) (by decide) rfl (kT K) (kC K) hK.2.1 rfl) (by decide) (by decide) (by decide)
  · intro h
    have h : ¬ gp (kS K) = 0 := fun q => h (by rw [q]; rfl)
    have l := loop (by omega) (gp (kS K) - 1) 1 (by decide) (by omega)
    rw [show fuN (gwt (kS K)) 1 = 0 by simp [fuN]] at l
    exact l
def fMean (S : SH) : Nat := if gc S = 0 then 5 else 0
theorem s_checkForMean (K : KS') (hK : WK K) : Sp 6 1 6 mX10_checkForMean [vR 0 0] (world K) (PoF (fMean (kS K)) none (world K)) := by
  refine Sp.of' false (fun h => by cases h) (by decide) rfl rfl (Nat.le_of_ble_eq_true rfl) fun γ σ B => ?_
  refine B.run okX10_checkForMean [] 60 ?_
  constructor
  · intro h
    have h := nz_of hK.1.1 (by decide) h
    exact B.thrW okX10_checkForMean T_M ex_464 (PoF_n (m := 5) (by unfold fMean; exact if_pos h) (by decide) rfl rfl) (by decide) (by decide) (by decide)
  · intro h
    have h : ¬ gc (kS K) = 0 := fun q => h (by rw [q]; rfl)
    exact rCN (by unfold fMean; exact if_neg h)
theorem m_meanWater (K : KS') (hK : WK K) (hne : vf_n64 (FP.ddiv (FP.i2d (sumI (gw (kS K)) (gc (kS K)))) (FP.i2d (nI (gc (kS K)))))) : Sp 12 12 700 mX10_meanWater [vR 0 0] (world K) (PoC (fMean (kS K)) (some (vD (FP.ddiv (FP.i2d (sumI (gw (kS K)) (gc (kS K)))) (FP.i2d (nI (gc (kS K))))))) (K) (K)) := by
  refine Sp.of' false (fun h => by cases h) (by decide) rfl rfl (Nat.le_of_ble_eq_true rfl) fun γ σ B => ?_
  refine B.run okX10_meanWater [] 60 ?_
  refine At.fI [] [] B.1 B.2.1 (s_checkForMean K hK) kX10_checkForMean ln_X10_315 (B.fit (by decide) (by decide) (by decide)) (by decide) (by decide) (dcV okX10_meanWater rfl) (fun hf => ?_) (fun hf => PoC_x hf (kT K) (kC K) hK.2.1 rfl)
  refine B.run okX10_meanWater [] 60 ?_
  refine At.wV (fe_hS K (kS K).1) [] [] B.1 (s_totalWater (gc (kS K)) hK.1.1 _ _ _ _ _ _) kX5_totalWater ln_X10_318 (B.fit (by decide) (by decide) (by decide)) (dcV okX10_meanWater rfl) ?_
  refine At.i2d B.1 (dc1L okX10_meanWater rfl (by simp [L1])) ?_
  refine B.run okX10_meanWater [] 60 ?_
  refine At.i2d B.1 (dc1L okX10_meanWater rfl (by simp [L1])) ?_
  refine At.ddiv B.1 hne (dc1L okX10_meanWater rfl (by simp [L1])) ?_
  exact At.dret B.1 B.2.1 (dc1L okX10_meanWater rfl (by simp [L1])) rfl (by decide) (by decide) (Or.inl rfl) (PoC_v hf (kT K) (kC K) hK.2.1 rfl)
theorem m_fillShare (K : KS') (hK : WK K) (hne : vf_n32 (FP.fdiv (FP.i2f (sumI (gw (kS K)) (gc (kS K)))) (FP.i2f (sumI (gcp (kS K)) (gc (kS K)))))) : Sp 12 12 700 mX10_fillShare [vR 0 0] (world K) (PoC (fMean (kS K)) (some (vF (FP.fdiv (FP.i2f (sumI (gw (kS K)) (gc (kS K)))) (FP.i2f (sumI (gcp (kS K)) (gc (kS K))))))) (K) (K)) := by
  refine Sp.of' false (fun h => by cases h) (by decide) rfl rfl (Nat.le_of_ble_eq_true rfl) fun γ σ B => ?_
  refine B.run okX10_fillShare [] 60 ?_
  refine At.fI [] [] B.1 B.2.1 (s_checkForMean K hK) kX10_checkForMean ln_X10_315 (B.fit (by decide) (by decide) (by decide)) (by decide) (by decide) (dcV okX10_fillShare rfl) (fun hf => ?_) (fun hf => PoC_x hf (kT K) (kC K) hK.2.1 rfl)
  refine B.run okX10_fillShare [] 60 ?_
  refine At.wV (fe_hS K (kS K).1) [] [] B.1 (s_totalWater (gc (kS K)) hK.1.1 _ _ _ _ _ _) kX5_totalWater ln_X10_318 (B.fit (by decide) (by decide) (by decide)) (dcV okX10_fillShare rfl) ?_
  refine At.i2f B.1 (dc1L okX10_fillShare rfl (by simp [L1])) ?_
  refine B.run okX10_fillShare [] 60 ?_
  refine At.wV (fe_hS K (kS K).1) [] [vF (FP.i2f (sumI (gw (kS K)) (gc (kS K))))] B.1 (s_totalCapacity (gc (kS K)) hK.1.1 _ _ _ _ _ _) kX5_totalCapacity ln_X10_321 (B.fit (by decide) (by decide) (by decide)) (dcV okX10_fillShare rfl) ?_
  refine At.i2f B.1 (dc1L okX10_fillShare rfl (by simp [L1])) ?_
  refine At.fdiv B.1 hne (dc1L okX10_fillShare rfl (by simp [L1])) ?_
  exact At.fret B.1 B.2.1 (dc1L okX10_fillShare rfl (by simp [L1])) rfl (by decide) (by decide) (Or.inl rfl) (PoC_v hf (kT K) (kC K) hK.2.1 rfl)
def tbR (a w : Int32) : Nat → SH → Int32 → CS → Option Nat
  | 0, _, _, _ => none
  | n + 1, T, m, C => if absI (trimI m w) ≤ glm T then some 0 else if impB (bS T a m C) m = true then (tbR a w n (eMov T (bS T a m C).2.1 (bS T a m C).2.2.1 a) (bS T a m C).2.2.2 (bS T a m C)).map (· + 1) else none
abbrev tbK (K : KS') (a : Int32) : Option Nat := tbR a (twI (kS K)) ((absI (tmI (kS K))).toNatClampNeg + 1) (cpT K) (tmI (kS K)) (kC K)
def fTB (K : KS') (a : Int32) : Nat := if fAmt a = 0 then (if (tbK K a).isSome = true then 0 else 4) else fAmt a
theorem m_transfersToBalance (K : KS') (hK : WK K) (a : Int32) (hM : ∃ M, M < 2 ^ 30 ∧ absI (tmI (kS K)) = nI M) : Sp 12 12 700 mX10_transfersToBalance [vR 0 0, vI a] (world K) (PoC (fTB K a) (some (vI (nI ((tbK K a).getD 0)))) (K) (K)) := by
  refine Sp.of' false (fun h => by cases h) (by decide) rfl rfl (Nat.le_of_ble_eq_true rfl) fun γ σ B => ?_
  refine B.run okX10_transfersToBalance [] 60 ?_
  refine At.cSA [] [vI a] [] B.1 (s_fAmt a) kX10_faultOfAmount ln_X10_123 trivial (B.fit (by decide) (by decide) (by decide)) (dcS okX10_transfersToBalance rfl) ?_
  show At γ σ 0 0 4 [(0, vR 0 0), (1, vI a)] [vK (fAmt a)] (world K)
  refine At.fS [] [vK (fAmt a)] [] B.1 B.2.1 (s_refuse _ (fAmt_i a)) kX10_refuse ln_X10_57 trivial (B.fit (by decide) (by decide) (by decide)) (by decide) (by decide) (dcS okX10_transfersToBalance rfl) (fun h0 => ?_) (fun h0 => PoC_n (m := fAmt a) (by unfold fTB; exact if_neg h0) h0 rfl (kT K) (kC K) hK.2.1 rfl)
  have e1 : fTB K a = if (tbK K a).isSome = true then 0 else 4 := if_pos h0
  obtain ⟨M, hM, eM⟩ := hM
  have eR : tbK K a = tbR a (twI (kS K)) (M + 1) (cpT K) (tmI (kS K)) (kC K) := by
    unfold tbK
    rw [eM, nI_clamp (by omega)]
  have thrown : tbK K a = none → ∀ (T : SH) (C : CS), WF T → ∀ ls, At γ σ (0 + 1) (0 + 6) 134 ls [] (world (scr K T C)) := fun e T C hT ls =>
    B.thrNW okX10_transfersToBalance T_N ex_288 (PoC_n (m := 4) (by rw [e1, e]; rfl) (by decide) rfl T C hT rfl) (by decide) (by decide) (by decide)
  have loop : ∀ (n dn : Nat) (T : SH) (m : Int32) (C : CS), WF T → dn + n = M + 1 → tbK K a = (tbR a (twI (kS K)) n T m C).map (dn + ·) → At γ σ (0 + 1) (0 + 6) 43 [(0, vR 0 0), (1, vI a), (2, vI (twI (kS K))), (3, vI m), (4, vI (nI M)), (5, vI (nI dn))] [] (world (scr K T C)) := by
    intro n
    induction n with
    | zero =>
      intro dn T m C hT hd he
      have hd : dn = M + 1 := by omega
      subst hd
      refine B.run okX10_transfersToBalance [(43, [0, 1, 2, 3, 4, 5]), (134, [])] 60 ?_
      constructor
      · intro _
        exact thrown (by rw [he]; rfl) T C hT _
      · intro h
        exact absurd (nI_lt (Nat.lt_succ_self M) (by omega)) h
    | succ n ih =>
      intro dn T m C hT hd he
      have hc8 := hT.1
      refine B.run okX10_transfersToBalance [(43, [0, 1, 2, 3, 4, 5]), (134, [])] 60 ?_
      constructor
      · intro h
        exact absurd h (nI_nlt (by omega) (by omega))
      · intro _
        refine At.wV (fe_T (scr K T C) T) [vI m, vI (twI (kS K))] [] B.1 (s_isWithinLimit T m (twI (kS K))) kX8_isWithinLimit ln_X10_262 (B.fit (by decide) (by decide) (by decide)) (dcV okX10_transfersToBalance rfl) ?_
        refine B.run okX10_transfersToBalance [(43, [0, 1, 2, 3, 4, 5]), (134, [])] 60 ?_
        constructor
        · intro h
          have h := of_decide_eq_false (b2_eq0.mp h)
          refine B.run okX10_transfersToBalance [(43, [0, 1, 2, 3, 4, 5]), (134, [])] 60 ?_
          refine At.wV (fe_CT (scr K T C) (bS T a m C)) [vR 1 0, vI a, vI m] [] B.1 (s_searchT C (gc T) hT.1 _ _ _ _ _ _ a m) kX2_searchTransfers ln_X10_126 (B.fit (by decide) (by decide) (by decide)) (dcV okX10_transfersToBalance rfl) ?_
          refine B.run okX10_transfersToBalance [(43, [0, 1, 2, 3, 4, 5]), (134, [])] 60 ?_
          refine At.wV (fe_C (scr K T (bS T a m C)) (bS T a m C)) [vI m] [] B.1 (s_improves (bS T a m C) m) kX2_improves ln_X10_130 (B.fit (by decide) (by decide) (by decide)) (dcV okX10_transfersToBalance rfl) ?_
          refine B.run okX10_transfersToBalance [(43, [0, 1, 2, 3, 4, 5]), (134, [])] 60 ?_
          have eu : tbR a (twI (kS K)) (n + 1) T m C = if impB (bS T a m C) m = true then (tbR a (twI (kS K)) n (eMov T (bS T a m C).2.1 (bS T a m C).2.2.1 a) (bS T a m C).2.2.2 (bS T a m C)).map (· + 1) else none := if_neg h
          constructor
          · intro h2
            have h2 := b2_eq0.mp h2
            exact thrown (by rw [he, eu, h2]; rfl) T _ hT _
          · intro h2
            have h2 := b2_ne0.mp h2
            rw [if_pos h2] at eu
            rcases CIn_bst T a m C with q | ⟨s, t, hs, ht, es, et⟩
            · exact absurd q (impB_f h2)
            have em : eMov T (bS T a m C).2.1 (bS T a m C).2.2.1 a = eMovN T s t a := by
              rw [es, et]; exact eMov_n (by omega) (by omega)
            rw [em] at eu
            refine B.run okX10_transfersToBalance [(43, [0, 1, 2, 3, 4, 5]), (134, [])] 60 ?_
            show At γ σ _ _ 117 [(0, vR 0 0), (1, vI a), (2, vI (twI (kS K))), (3, vI m), (4, vI (nI M)), (5, vI (nI dn))] [vI a, vI (bS T a m C).2.2.1, vI (bS T a m C).2.1, vR 6 0] (world (scr K T (bS T a m C)))
            rw [es, et]
            refine At.wV (fe_hT (scr K T (bS T a m C)) (eMovN T s t a).1) [vI (nI s), vI (nI t), vI a] [] B.1 (s_move (nI (gc T)) _ _ _ _ _ _ s t (by omega) (by omega) a) kX5_move ln_X10_115 (B.fit (by decide) (by decide) (by decide)) (dcV okX10_transfersToBalance rfl) ?_
            refine B.run okX10_transfersToBalance [(43, [0, 1, 2, 3, 4, 5]), (134, [])] 60 ?_
            show At γ σ (0 + 1) (0 + 6) 43 [(0, vR 0 0), (1, vI a), (2, vI (twI (kS K))), (3, vI (bS T a m C).2.2.2), (4, vI (nI M)), (5, vI (nI dn + 1))] [] (world (scr K (eMovN T s t a) (bS T a m C)))
            rw [nI_1]
            refine ih (dn + 1) (eMovN T s t a) (bS T a m C).2.2.2 (bS T a m C) hT (by omega) ?_
            rw [he, eu, Option.map_map]
            congr 1
            funext z
            show dn + (z + 1) = dn + 1 + z
            omega
        · intro h
          have h := of_decide_eq_true (b2_ne0.mp h)
          have eu : tbR a (twI (kS K)) (n + 1) T m C = some 0 := if_pos h
          exact rCo (by rw [e1, he, eu]; rfl) (by rw [he, eu]; rfl) T C hT
  refine B.run okX10_transfersToBalance [(43, [0, 1, 2, 3, 4, 5]), (134, [])] 60 ?_
  refine At.wV (fe_TS K (cpT K)) [vR 4 0] [] B.1 (s_scopy (kT K) (kS K) hK.1.2.2.2.2.1) kX8_copyFrom ln_X10_275 (B.fit (by decide) (by decide) (by decide)) (dcV okX10_transfersToBalance rfl) ?_
  refine B.run okX10_transfersToBalance [(43, [0, 1, 2, 3, 4, 5]), (134, [])] 60 ?_
  refine At.wV (fe_T (stT K (cpT K)) (cpT K)) [] [] B.1 (s_totalWeight (cpT K) (WF_cpT hK)) kX8_totalWeight ln_X10_250 (B.fit (by decide) (by decide) (by decide)) (dcV okX10_transfersToBalance rfl) ?_
  refine B.run okX10_transfersToBalance [(43, [0, 1, 2, 3, 4, 5]), (134, [])] 60 ?_
  refine At.wV (fe_T (stT K (cpT K)) (cpT K)) [] [] B.1 (s_totalMoment (cpT K) (WF_cpT hK)) kX8_totalMoment ln_X10_119 (B.fit (by decide) (by decide) (by decide)) (dcV okX10_transfersToBalance rfl) ?_
  refine B.run okX10_transfersToBalance [(43, [0, 1, 2, 3, 4, 5]), (134, [])] 60 ?_
  refine At.mabs B.1 kabs ln_X10_278 (fiW B (by decide) (by decide) (by decide)) (Nat.le_of_ble_eq_true rfl) (dcS okX10_transfersToBalance rfl) ?_
  show At γ σ (0 + 1) (0 + 6) 38 [(0, vR 0 0), (1, vI a), (2, vI (twI (kS K))), (3, vI (tmI (kS K)))] [vI (absI (tmI (kS K)))] (world (scr K (cpT K) (kC K)))
  rw [eM]
  refine B.run okX10_transfersToBalance [(43, [0, 1, 2, 3, 4, 5]), (134, [])] 60 ?_
  exact loop (M + 1) 0 (cpT K) (tmI (kS K)) (kC K) (WF_cpT hK) (by omega) (by rw [eR]; cases tbR a (twI (kS K)) (M + 1) (cpT K) (tmI (kS K)) (kC K) <;> simp)
