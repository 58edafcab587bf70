/-! ===== reads that make no cell (no fault) ===== -/
theorem hs_n {c j : Nat} (hj : j < c) (hc : c ≤ 16) : hsB c (nI j) = true := by
  unfold hsB
  rw [decide_eq_true (show (0 : Int32) ≤ nI j from by rw [show (0 : Int32) = nI 0 from rfl]; exact nI_le (Nat.zero_le _) (by omega)), decide_eq_true (nI_lt hj (by omega))]; rfl
theorem z_check (K : KS') (hK : WK K) (j : Nat) (hj : j < gc (kS K)) : Sp 6 0 0 mX10_checkCompartment [vR 0 0, vI (nI j)] (world K) (PoF 0 none (world K)) := by
  refine Sp.of' false (fun h => by cases h) (by decide) rfl rfl (Nat.le_of_ble_eq_true rfl) fun γ σ B => ?_
  refine B.run okX10_checkCompartment [] 60 ?_
  refine At.wV (fe_hS K (kS K).1) [vI (nI j)] [] B.1 (s_has2 (gc (kS K)) hK.1.1 _ _ _ _ _ _ (nI j)) kX5_has ln_X10_457 (B.fit (by decide) (by decide) (by decide)) (dcV okX10_checkCompartment rfl) ?_
  refine B.run okX10_checkCompartment [] 60 ?_
  have hb : hsB (gc (kS K)) (nI j) = true := hs_n hj (Nat.le_trans hK.1.1 (by decide))
  constructor
  · intro h
    have h := b2_eq0.mp h
    rw [hb] at h
    cases h
  · intro _
    exact rCN rfl
theorem z_arm (K : KS') (hK : WK K) (j : Nat) (hj : j < gc (kS K)) : Sp 8 0 0 mX10_arm [vR 0 0, vI (nI j)] (world K) (PoI (gar (kS K) j) (world K)) := by
  refine Sp.of' false (fun h => by cases h) (by decide) rfl rfl (Nat.le_of_ble_eq_true rfl) fun γ σ B => ?_
  have hj8 : j < 8 := Nat.lt_of_lt_of_le hj hK.1.1
  refine B.run okX10_arm [] 60 ?_
  refine At.fI [vI (nI j)] [] B.1 B.2.1 (z_check K hK j hj) kX10_checkCompartment ln_X10_197 (B.fit (by decide) (by decide) (by decide)) (by decide) (by decide) (dcV okX10_arm rfl) (fun _ => ?_) (fun q => absurd rfl q)
  refine B.run okX10_arm [] 60 ?_
  exact ⟨vp_in_nI hj8 (by decide), rI (by rw [nI_clamp (by omega)])⟩
theorem z_capacity (K : KS') (hK : WK K) (j : Nat) (hj : j < gc (kS K)) : Sp 8 0 0 mX10_capacity [vR 0 0, vI (nI j)] (world K) (PoI (gcp (kS K) j) (world K)) := by
  refine Sp.of' false (fun h => by cases h) (by decide) rfl rfl (Nat.le_of_ble_eq_true rfl) fun γ σ B => ?_
  have hj8 : j < 8 := Nat.lt_of_lt_of_le hj hK.1.1
  refine B.run okX10_capacity [] 60 ?_
  refine At.fI [vI (nI j)] [] B.1 B.2.1 (z_check K hK j hj) kX10_checkCompartment ln_X10_197 (B.fit (by decide) (by decide) (by decide)) (by decide) (by decide) (dcV okX10_capacity rfl) (fun _ => ?_) (fun q => absurd rfl q)
  refine B.run okX10_capacity [] 60 ?_
  exact ⟨vp_in_nI hj8 (by decide), rI (by rw [nI_clamp (by omega)])⟩
theorem z_water (K : KS') (hK : WK K) (j : Nat) (hj : j < gc (kS K)) : Sp 8 0 0 mX10_water [vR 0 0, vI (nI j)] (world K) (PoI (gw (kS K) j) (world K)) := by
  refine Sp.of' false (fun h => by cases h) (by decide) rfl rfl (Nat.le_of_ble_eq_true rfl) fun γ σ B => ?_
  have hj8 : j < 8 := Nat.lt_of_lt_of_le hj hK.1.1
  refine B.run okX10_water [] 60 ?_
  refine At.fI [vI (nI j)] [] B.1 B.2.1 (z_check K hK j hj) kX10_checkCompartment ln_X10_197 (B.fit (by decide) (by decide) (by decide)) (by decide) (by decide) (dcV okX10_water rfl) (fun _ => ?_) (fun q => absurd rfl q)
  refine B.run okX10_water [] 60 ?_
  exact ⟨vp_in_nI hj8 (by decide), rI (by rw [nI_clamp (by omega)])⟩
theorem z_leak (K : KS') (hK : WK K) (j : Nat) (hj : j < gc (kS K)) : Sp 8 0 0 mX10_leak [vR 0 0, vI (nI j)] (world K) (PoI (gl (kS K) j) (world K)) := by
  refine Sp.of' false (fun h => by cases h) (by decide) rfl rfl (Nat.le_of_ble_eq_true rfl) fun γ σ B => ?_
  have hj8 : j < 8 := Nat.lt_of_lt_of_le hj hK.1.1
  refine B.run okX10_leak [] 60 ?_
  refine At.fI [vI (nI j)] [] B.1 B.2.1 (z_check K hK j hj) kX10_checkCompartment ln_X10_197 (B.fit (by decide) (by decide) (by decide)) (by decide) (by decide) (dcV okX10_leak rfl) (fun _ => ?_) (fun q => absurd rfl q)
  refine B.run okX10_leak [] 60 ?_
  exact ⟨vp_in_nI hj8 (by decide), rI (by rw [nI_clamp (by omega)])⟩
theorem z_loadOf (K : KS') (hK : WK K) (j : Nat) (hj : j < gc (kS K)) : Sp 8 0 0 mX10_loadOf [vR 0 0, vI (nI j)] (world K) (PoI (ldI (kS K) j) (world K)) := by
  refine Sp.of' false (fun h => by cases h) (by decide) rfl rfl (Nat.le_of_ble_eq_true rfl) fun γ σ B => ?_
  have hj8 : j < 8 := Nat.lt_of_lt_of_le hj hK.1.1
  refine B.run okX10_loadOf [] 60 ?_
  refine At.fI [vI (nI j)] [] B.1 B.2.1 (z_check K hK j hj) kX10_checkCompartment ln_X10_197 (B.fit (by decide) (by decide) (by decide)) (by decide) (by decide) (dcV okX10_loadOf rfl) (fun _ => ?_) (fun q => absurd rfl q)
  refine B.run okX10_loadOf [] 60 ?_
  refine At.wV (fe_S K (kS K)) [vI (nI j)] [] B.1 (s_loadIn (kS K) hK.1 j hj8) kX8_loadIn ln_X10_210 (B.fit (by decide) (by decide) (by decide)) (dcV okX10_loadOf rfl) ?_
  refine B.run okX10_loadOf [] 60 ?_
  exact rI rfl
theorem z_wouldPump (K : KS') (hK : WK K) (j : Nat) (hj : j < gc (kS K)) : Sp 8 0 0 mX10_wouldPump [vR 0 0, vI (nI j)] (world K) (PoI (b2 (rnB (gu (kS K)) (gw (kS K)) (gc (kS K)) (gpw (kS K)) j)) (world K)) := by
  refine Sp.of' false (fun h => by cases h) (by decide) rfl rfl (Nat.le_of_ble_eq_true rfl) fun γ σ B => ?_
  have hj8 : j < 8 := Nat.lt_of_lt_of_le hj hK.1.1
  refine B.run okX10_wouldPump [] 60 ?_
  refine At.fI [vI (nI j)] [] B.1 B.2.1 (z_check K hK j hj) kX10_checkCompartment ln_X10_197 (B.fit (by decide) (by decide) (by decide)) (by decide) (by decide) (dcV okX10_wouldPump rfl) (fun _ => ?_) (fun q => absurd rfl q)
  refine B.run okX10_wouldPump [] 60 ?_
  refine At.wV (fe_hS K (kS K).1) [vI (nI j), vI (gpw (kS K))] [] B.1 (s_hasPower (gc (kS K)) hK.1.1 _ _ _ _ _ _ j hj8 (gpw (kS K))) kX5_hasPower ln_X10_213 (B.fit (by decide) (by decide) (by decide)) (dcV okX10_wouldPump rfl) ?_
  refine B.run okX10_wouldPump [] 60 ?_
  exact ⟨b2_in _, rI rfl⟩
theorem z_idAt (K : KS') (hK : WK K) (j : Nat) (hj : j < gp (kS K)) : Sp 8 0 0 mX10_idAt [vR 0 0, vI (nI j)] (world K) (PoI (gid (kS K) j) (world K)) := by
  refine Sp.of' false (fun h => by cases h) (by decide) rfl rfl (Nat.le_of_ble_eq_true rfl) fun γ σ B => ?_
  have hp := hK.1.2.1
  refine B.run okX10_idAt [] 60 ?_
  constructor
  · intro h
    exact absurd h (nI_pos (by omega))
  · intro _
    constructor
    · intro _
      exact ⟨vp_in_nI (by omega) (by decide), rI (by rw [nI_clamp (by omega)])⟩
    · intro h2
      exact absurd (nI_lt hj (by omega)) h2
theorem z_pos (K : KS') (hK : WK K) (x : Int32) (hq : pq (kS K) x < gp (kS K)) : Sp 6 0 0 mX10_positionOfPiece [vR 0 0, vI x] (world K) (PoF 0 (some (vI (nI (pq (kS K) x)))) (world K)) := by
  refine Sp.of' false (fun h => by cases h) (by decide) rfl rfl (Nat.le_of_ble_eq_true rfl) fun γ σ B => ?_
  refine B.run okX10_positionOfPiece [] 60 ?_
  refine At.wV (fe_gS K (kS K).2.1) [vI x] [] B.1 (s_cfind (gp (kS K)) hK.1.2.1 _ _ _ _ x) kX1_find ln_X10_465 (B.fit (by decide) (by decide) (by decide)) (dcV okX10_positionOfPiece rfl) ?_
  refine B.run okX10_positionOfPiece [] 60 ?_
  have e : fnd (gid (kS K)) x (gp (kS K)) = nI (pq (kS K) x) := if_pos hq
  rw [e]
  constructor
  · intro h
    exact rCF rfl rfl
  · intro h
    exact absurd (nI_pos' (Nat.lt_of_lt_of_le (Nat.lt_of_lt_of_le hq hK.1.2.1) (by decide))) h
theorem z_weightOf (K : KS') (hK : WK K) (x : Int32) (hq : pq (kS K) x < gp (kS K)) : Sp 8 0 0 mX10_weightOf [vR 0 0, vI x] (world K) (PoI (gwt (kS K) (pq (kS K) x)) (world K)) := by
  refine Sp.of' false (fun h => by cases h) (by decide) rfl rfl (Nat.le_of_ble_eq_true rfl) fun γ σ B => ?_
  have h9 : pq (kS K) x < 16 := Nat.lt_of_lt_of_le hq hK.1.2.1
  refine B.run okX10_weightOf [] 60 ?_
  refine At.fI [vI x] [vR 3 2] B.1 B.2.1 (z_pos K hK x hq) kX10_positionOfPiece ln_X10_242 (B.fit (by decide) (by decide) (by decide)) (by decide) (by decide) (dcV okX10_weightOf rfl) (fun _ => ?_) (fun q => absurd rfl q)
  refine B.run okX10_weightOf [] 60 ?_
  exact ⟨vp_in_nI h9 (by decide), rI (by rw [nI_clamp (Nat.lt_trans h9 (by decide))])⟩
theorem z_compartmentOf (K : KS') (hK : WK K) (x : Int32) (hq : pq (kS K) x < gp (kS K)) : Sp 8 0 0 mX10_compartmentOf [vR 0 0, vI x] (world K) (PoI (gpl (kS K) (pq (kS K) x)) (world K)) := by
  refine Sp.of' false (fun h => by cases h) (by decide) rfl rfl (Nat.le_of_ble_eq_true rfl) fun γ σ B => ?_
  have h9 : pq (kS K) x < 16 := Nat.lt_of_lt_of_le hq hK.1.2.1
  refine B.run okX10_compartmentOf [] 60 ?_
  refine At.fI [vI x] [vR 3 3] B.1 B.2.1 (z_pos K hK x hq) kX10_positionOfPiece ln_X10_242 (B.fit (by decide) (by decide) (by decide)) (by decide) (by decide) (dcV okX10_compartmentOf rfl) (fun _ => ?_) (fun q => absurd rfl q)
  refine B.run okX10_compartmentOf [] 60 ?_
  exact ⟨vp_in_nI h9 (by decide), rI (by rw [nI_clamp (Nat.lt_trans h9 (by decide))])⟩
theorem z_lineChar (K : KS') (hK : WK K) (j : Nat) (hL : (kL K).1 ≤ 1000) (hj : j < (kL K).1) : Sp 8 0 0 mX10_lineChar [vR 0 0, vI (nI j)] (world K) (PoI (nI ((kL K).2.2 j)) (world K)) := by
  refine Sp.of' false (fun h => by cases h) (by decide) rfl rfl (Nat.le_of_ble_eq_true rfl) fun γ σ B => ?_
  refine At.sbF (r := 52) (o := 0) (nn := (kL K).1) (m := (kL K).2.1) (t := (kL K).2.2) rfl fun ht _ _ => ?_
  refine B.run okX10_lineChar [] 60 ?_
  constructor
  · intro h
    exact absurd h (nI_pos (by omega))
  · intro h
    refine B.run okX10_lineChar [] 60 ?_
    refine At.wB (fe_L K (kL K)) [] [vI (nI j)] B.1 (s_sbLen (kL K).1 (kL K).2.1 (kL K).2.2) kJ4_length_8abf5 ln_X10_353 (B.fit (by decide) (by decide) (by decide)) (dcV okX10_lineChar rfl) ?_
    refine B.run okX10_lineChar [] 60 ?_
    constructor
    · intro h2
      refine B.run okX10_lineChar [] 60 ?_
      refine At.wB (fe_L K (kL K)) [vI (nI j)] [] B.1 (s_sChr (kL K).1 (kL K).2.1 j (kL K).2.2 hj) kJ4_charAt_5068e ln_X10_362 (B.fit (by decide) (by decide) (by decide)) (dcV okX10_lineChar rfl) ?_
      refine B.run okX10_lineChar [] 60 ?_
      exact ⟨(pk_charN (Nat.lt_trans (ht j hj) (by decide))).1, rI rfl⟩
    · intro h2
      exact absurd (nI_lt hj (by omega)) h2
theorem z_minute (K : KS') : Sp 8 0 0 mX10_minute [vR 0 0] (world K) (PoI (gmn (kS K)) (world K)) := by
  refine Sp.of' false (fun h => by cases h) (by decide) rfl rfl (Nat.le_of_ble_eq_true rfl) fun γ σ B => ?_
  refine B.run okX10_minute [] 60 ?_
  exact rI rfl
theorem z_compartmentCount (K : KS') : Sp 8 0 0 mX10_compartmentCount [vR 0 0] (world K) (PoI (nI (gc (kS K))) (world K)) := by
  refine Sp.of' false (fun h => by cases h) (by decide) rfl rfl (Nat.le_of_ble_eq_true rfl) fun γ σ B => ?_
  refine B.run okX10_compartmentCount [] 60 ?_
  exact rI rfl
theorem z_pieceCount (K : KS') : Sp 8 0 0 mX10_pieceCount [vR 0 0] (world K) (PoI (nI (gp (kS K))) (world K)) := by
  refine Sp.of' false (fun h => by cases h) (by decide) rfl rfl (Nat.le_of_ble_eq_true rfl) fun γ σ B => ?_
  refine B.run okX10_pieceCount [] 60 ?_
  exact rI rfl
