/-! ===== the model: what it tells ===== -/
abbrev ng (b : Bool) : Int32 := if b = true then 0 else 1
section NR
variable {m : MS} {T : SH}
theorem n_told (m : MS) (w : Nat) (h : w < 1392) : Sp 0 0 0 mX11_told [vR 0 0, vI (nI w)] (mdl m) (PoI (zA m w) (mdl (wT m 0))) := by
  refine Sp.of' false (fun h => by cases h) (by decide) rfl rfl (Nat.le_of_ble_eq_true rfl) fun γ σ B => ?_
  refine B.run okX11_told [] 60 ?_
  refine ⟨trivial, vp_in_nI h (by decide), ?_⟩
  rw [nI_clamp (by omega)]
  exact rI rfl
theorem n_minute (r : RS T (zA m)) : Sp 1 0 0 mX11_minute [vR 0 0] (mdl m) (PoI (gmn T) (mdl (wT m 0))) := by
  refine Sp.of' false (fun h => by cases h) (by decide) rfl rfl (Nat.le_of_ble_eq_true rfl) fun γ σ B => ?_
  have F : Fit γ 0 0 0 0 0 := fiW B (by decide) (Nat.zero_le _) (Nat.zero_le _)
  refine B.run okX11_minute [] 60 ?_
  refine At.mI [vI 0] [] B.1 (n_told m 0 (by decide)) kX11_told ln_X11_164 F (dcV okX11_minute rfl) ?_
  refine B.run okX11_minute [] 60 ?_
  exact rI r.1.1
theorem n_compartmentCount (r : RS T (zA m)) : Sp 1 0 0 mX11_compartmentCount [vR 0 0] (mdl m) (PoI (nI (gc T)) (mdl (wT m 0))) := by
  refine Sp.of' false (fun h => by cases h) (by decide) rfl rfl (Nat.le_of_ble_eq_true rfl) fun γ σ B => ?_
  have F : Fit γ 0 0 0 0 0 := fiW B (by decide) (Nat.zero_le _) (Nat.zero_le _)
  refine B.run okX11_compartmentCount [] 60 ?_
  refine At.mI [vI 1] [] B.1 (n_told m 1 (by decide)) kX11_told ln_X11_164 F (dcV okX11_compartmentCount rfl) ?_
  refine B.run okX11_compartmentCount [] 60 ?_
  exact rI r.1.2.1
theorem n_pieceCount (r : RS T (zA m)) : Sp 1 0 0 mX11_pieceCount [vR 0 0] (mdl m) (PoI (nI (gp T)) (mdl (wT m 0))) := by
  refine Sp.of' false (fun h => by cases h) (by decide) rfl rfl (Nat.le_of_ble_eq_true rfl) fun γ σ B => ?_
  have F : Fit γ 0 0 0 0 0 := fiW B (by decide) (Nat.zero_le _) (Nat.zero_le _)
  refine B.run okX11_pieceCount [] 60 ?_
  refine At.mI [vI 2] [] B.1 (n_told m 2 (by decide)) kX11_told ln_X11_164 F (dcV okX11_pieceCount rfl) ?_
  refine B.run okX11_pieceCount [] 60 ?_
  exact rI r.1.2.2.1
theorem n_stormCount (r : RS T (zA m)) : Sp 1 0 0 mX11_stormCount [vR 0 0] (mdl m) (PoI (nI (gsc T)) (mdl (wT m 0))) := by
  refine Sp.of' false (fun h => by cases h) (by decide) rfl rfl (Nat.le_of_ble_eq_true rfl) fun γ σ B => ?_
  have F : Fit γ 0 0 0 0 0 := fiW B (by decide) (Nat.zero_le _) (Nat.zero_le _)
  refine B.run okX11_stormCount [] 60 ?_
  refine At.mI [vI 7] [] B.1 (n_told m 7 (by decide)) kX11_told ln_X11_164 F (dcV okX11_stormCount rfl) ?_
  refine B.run okX11_stormCount [] 60 ?_
  exact rI r.1.2.2.2.2.2.2.2.1
theorem n_isAfloat (r : RS T (zA m)) : Sp 1 0 0 mX11_isAfloat [vR 0 0] (mdl m) (PoI (b2 (decide (gsk T = 0))) (mdl (wT m 0))) := by
  refine Sp.of' false (fun h => by cases h) (by decide) rfl rfl (Nat.le_of_ble_eq_true rfl) fun γ σ B => ?_
  have F : Fit γ 0 0 0 0 0 := fiW B (by decide) (Nat.zero_le _) (Nat.zero_le _)
  have e6 : zA m 6 = gsk T := r.1.2.2.2.2.2.2.1
  refine B.run okX11_isAfloat [] 60 ?_
  refine At.mI [vI 6] [] B.1 (n_told m 6 (by decide)) kX11_told ln_X11_164 F (dcV okX11_isAfloat rfl) ?_
  rw [e6]
  refine B.run okX11_isAfloat [] 60 ?_
  constructor
  · intro h
    exact rT (decide_eq_true h)
  · intro h
    exact rFa (decide_eq_false h)
theorem n_pumpedTotal (r : RS T (zA m)) : Sp 1 0 0 mX11_pumpedTotal [vR 0 0] (mdl m) (PoA (vL (gpu T)) (mdl (wT m 0))) := by
  refine Sp.of' false (fun h => by cases h) (by decide) rfl rfl (Nat.le_of_ble_eq_true rfl) fun γ σ B => ?_
  have F : Fit γ 0 0 0 0 0 := fiW B (by decide) (Nat.zero_le _) (Nat.zero_le _)
  refine B.run okX11_pumpedTotal [] 60 ?_
  refine At.mI [vI 9] [] B.1 (n_told m 9 (by decide)) kX11_told ln_X11_164 F (dcV okX11_pumpedTotal rfl) ?_
  refine B.run okX11_pumpedTotal [] 60 ?_
  exact rA (congrArg (fun z => (vL z : AV)) r.1.2.2.2.2.2.2.2.2.2)
theorem n_undoableCount (m : MS) : Sp 0 0 0 mX11_undoableCount [vR 0 0] (mdl m) (PoI (zN m) (mdl (wT m 0))) := by
  refine Sp.of' false (fun h => by cases h) (by decide) rfl rfl (Nat.le_of_ble_eq_true rfl) fun γ σ B => ?_
  refine B.run okX11_undoableCount [] 60 ?_
  exact ⟨trivial, rI rfl⟩
theorem n_isConsistent (m : MS) : Sp 0 0 0 mX11_isConsistent [vR 0 0] (mdl m) (PoI 1 (mdl (wT m 0))) := by
  refine Sp.of' false (fun h => by cases h) (by decide) rfl rfl (Nat.le_of_ble_eq_true rfl) fun γ σ B => ?_
  refine B.run okX11_isConsistent [] 60 ?_
  exact ⟨trivial, Or.inr rfl, rI rfl⟩
theorem n_weight (r : RS T (zA m)) (hT : WF T) : Sp 4 0 0 mX11_weight [vR 0 0] (mdl m) (PoI (twI T) (mdl (wT m 0))) := by
  refine Sp.of' false (fun h => by cases h) (by decide) rfl rfl (Nat.le_of_ble_eq_true rfl) fun γ σ B => ?_
  have F : Fit γ 0 0 0 0 0 := fiW B (by decide) (Nat.zero_le _) (Nat.zero_le _)
  have F3 : Fit γ 0 0 3 0 0 := fiW B (by decide) (Nat.zero_le _) (Nat.zero_le _)
  refine B.run okX11_weight [] 60 ?_
  refine ⟨trivial, ?_⟩
  refine At.mI [] [] B.1 (n_total (m := wT m 0) r hT) kX11_total ln_X11_91 F3 (dcV okX11_weight rfl) ?_
  refine B.run okX11_weight [] 60 ?_
  exact rI rfl
theorem n_weightByParts (r : RS T (zA m)) (hT : WF T) : Sp 5 0 0 mX11_weightByParts [vR 0 0] (mdl m) (PoI (twI T) (mdl (wT m 0))) := by
  refine Sp.of' false (fun h => by cases h) (by decide) rfl rfl (Nat.le_of_ble_eq_true rfl) fun γ σ B => ?_
  have F : Fit γ 0 0 0 0 0 := fiW B (by decide) (Nat.zero_le _) (Nat.zero_le _)
  have F4 : Fit γ 0 0 4 0 0 := fiW B (by decide) (Nat.zero_le _) (Nat.zero_le _)
  refine B.run okX11_weightByParts [] 60 ?_
  refine At.mI [] [] B.1 (n_weight r hT) kX11_weight ln_X11_174 F4 (dcV okX11_weightByParts rfl) ?_
  refine B.run okX11_weightByParts [] 60 ?_
  exact rI rfl
theorem n_moment (r : RS T (zA m)) (hT : WF T) : Sp 4 0 0 mX11_moment [vR 0 0] (mdl m) (PoI (tmI T) (mdl (wT m 0))) := by
  refine Sp.of' false (fun h => by cases h) (by decide) rfl rfl (Nat.le_of_ble_eq_true rfl) fun γ σ B => ?_
  have F : Fit γ 0 0 0 0 0 := fiW B (by decide) (Nat.zero_le _) (Nat.zero_le _)
  have F3 : Fit γ 0 0 3 0 0 := fiW B (by decide) (Nat.zero_le _) (Nat.zero_le _)
  refine B.run okX11_moment [] 60 ?_
  refine ⟨trivial, ?_⟩
  refine At.mI [] [] B.1 (n_turning (m := wT m 0) r hT) kX11_turning ln_X11_95 F3 (dcV okX11_moment rfl) ?_
  refine B.run okX11_moment [] 60 ?_
  exact rI rfl
theorem n_momentByParts (r : RS T (zA m)) (hT : WF T) : Sp 5 0 0 mX11_momentByParts [vR 0 0] (mdl m) (PoI (tmI T) (mdl (wT m 0))) := by
  refine Sp.of' false (fun h => by cases h) (by decide) rfl rfl (Nat.le_of_ble_eq_true rfl) fun γ σ B => ?_
  have F : Fit γ 0 0 0 0 0 := fiW B (by decide) (Nat.zero_le _) (Nat.zero_le _)
  have F4 : Fit γ 0 0 4 0 0 := fiW B (by decide) (Nat.zero_le _) (Nat.zero_le _)
  refine B.run okX11_momentByParts [] 60 ?_
  refine At.mI [] [] B.1 (n_moment r hT) kX11_moment ln_X11_177 F4 (dcV okX11_momentByParts rfl) ?_
  refine B.run okX11_momentByParts [] 60 ?_
  exact rI rfl
theorem n_trim (r : RS T (zA m)) (hT : WF T) (hw : ¬ twI T + 100 = 0) : Sp 4 0 0 mX11_trim [vR 0 0] (mdl m) (PoI (tmI T / (twI T + 100)) (mdl (wT m 0))) := by
  refine Sp.of' false (fun h => by cases h) (by decide) rfl rfl (Nat.le_of_ble_eq_true rfl) fun γ σ B => ?_
  have F : Fit γ 0 0 0 0 0 := fiW B (by decide) (Nat.zero_le _) (Nat.zero_le _)
  have F3 : Fit γ 0 0 3 0 0 := fiW B (by decide) (Nat.zero_le _) (Nat.zero_le _)
  refine B.run okX11_trim [] 60 ?_
  refine ⟨trivial, ?_⟩
  refine At.mI [] [] B.1 (n_turning (m := wT m 0) r hT) kX11_turning ln_X11_95 F3 (dcV okX11_trim rfl) ?_
  refine B.run okX11_trim [] 60 ?_
  refine At.mI [] [vI (tmI T)] B.1 (n_total (m := wT m 0) r hT) kX11_total ln_X11_91 F3 (dcV okX11_trim rfl) ?_
  refine B.run okX11_trim [] 60 ?_
  exact ⟨hw, rI rfl⟩
theorem n_isBalanced (r : RS T (zA m)) (hT : WF T) (hw : ¬ twI T + 100 = 0) : Sp 5 0 0 mX11_isBalanced [vR 0 0] (mdl m) (PoI (b2 (decide (absI (tmI T / (twI T + 100)) ≤ glm T))) (mdl (wT m 0))) := by
  refine Sp.of' false (fun h => by cases h) (by decide) rfl rfl (Nat.le_of_ble_eq_true rfl) fun γ σ B => ?_
  have F : Fit γ 0 0 0 0 0 := fiW B (by decide) (Nat.zero_le _) (Nat.zero_le _)
  have F4 : Fit γ 0 0 4 0 0 := fiW B (by decide) (Nat.zero_le _) (Nat.zero_le _)
  have e5 : zA m 5 = glm T := r.1.2.2.2.2.2.1
  refine B.run okX11_isBalanced [] 60 ?_
  refine At.mI [] [] B.1 (n_trim r hT hw) kX11_trim ln_X11_180 F4 (dcV okX11_isBalanced rfl) ?_
  refine B.run okX11_isBalanced [] 60 ?_
  refine At.mS [vI (tmI T / (twI T + 100))] [] B.1 (n_size (tmI T / (twI T + 100))) kX11_size ln_X11_98 F (dcS okX11_isBalanced rfl) ?_
  refine B.run okX11_isBalanced [] 60 ?_
  refine ⟨vk, ?_⟩
  constructor
  · intro h
    have h : zA m 5 < absI (tmI T / (twI T + 100)) := h
    rw [e5] at h
    exact rFa (decide_eq_false (Int32.not_le.mpr h))
  · intro h
    have h : ¬ zA m 5 < absI (tmI T / (twI T + 100)) := h
    rw [e5] at h
    exact rT (decide_eq_true (Int32.not_lt.mp h))
theorem n_ofTank0 (r : RS T (zA m)) (hT : WF T) (x : Int32) : Sp 2 0 0 mX11_ofTank [vR 0 0, vI x, vI 0] (mdl m) (PoI (if hsB (gc T) x = true then gar T x.toNatClampNeg else 0) (mdl (wT m (ng (hsB (gc T) x))))) := by
  refine Sp.of' false (fun h => by cases h) (by decide) rfl rfl (Nat.le_of_ble_eq_true rfl) fun γ σ B => ?_
  have F : Fit γ 0 0 0 0 0 := fiW B (by decide) (Nat.zero_le _) (Nat.zero_le _)
  have F1 : Fit γ 0 0 1 0 0 := fiW B (by decide) (Nat.zero_le _) (Nat.zero_le _)
  have hc := hT.1
  refine B.run okX11_ofTank [] 60 ?_
  refine At.mI [vI x] [vR 0 0] B.1 (n_isTank r hT x) kX11_isTank ln_X11_114 F1 (dcV okX11_ofTank rfl) ?_
  refine B.run okX11_ofTank [] 60 ?_
  refine At.mI [vI (b2 (hsB (gc T) x))] [] B.1 (n_isFine m (hsB (gc T) x)) kX11_isFine ln_X11_167 F (dcV okX11_ofTank rfl) ?_
  refine B.run okX11_ofTank [] 60 ?_
  constructor
  · intro h
    exact rI (by rw [if_neg (by rw [b2_eq0.mp h]; decide)])
  · intro h
    have h1 := b2_ne0.mp h
    obtain ⟨i, hi, rfl⟩ := hs_of (by omega) h1
    refine B.run okX11_ofTank [] 60 ?_
    refine At.mI [vI (nI i), vI 0] [] B.1 (n_c (wT m (ng (hsB (gc T) (nI i)))) i 0 (by omega)) kX11_c ln_X11_57 F (dcV okX11_ofTank rfl) ?_
    refine B.run okX11_ofTank [] 60 ?_
    refine rI ?_
    rw [if_pos h1, nI_clamp (by omega)]
    exact (r.2.1 i hi).1
theorem n_arm (r : RS T (zA m)) (hT : WF T) (x : Int32) : Sp 3 0 0 mX11_arm [vR 0 0, vI x] (mdl m) (PoI (if hsB (gc T) x = true then gar T x.toNatClampNeg else 0) (mdl (wT m (ng (hsB (gc T) x))))) := by
  refine Sp.of' false (fun h => by cases h) (by decide) rfl rfl (Nat.le_of_ble_eq_true rfl) fun γ σ B => ?_
  have F : Fit γ 0 0 0 0 0 := fiW B (by decide) (Nat.zero_le _) (Nat.zero_le _)
  have F2 : Fit γ 0 0 2 0 0 := fiW B (by decide) (Nat.zero_le _) (Nat.zero_le _)
  refine B.run okX11_arm [] 60 ?_
  refine At.mI [vI x, vI 0] [] B.1 (n_ofTank0 r hT x) kX11_ofTank ln_X11_171 F2 (dcV okX11_arm rfl) ?_
  refine B.run okX11_arm [] 60 ?_
  exact rI rfl
theorem n_ofTank1 (r : RS T (zA m)) (hT : WF T) (x : Int32) : Sp 2 0 0 mX11_ofTank [vR 0 0, vI x, vI 1] (mdl m) (PoI (if hsB (gc T) x = true then gcp T x.toNatClampNeg else 0) (mdl (wT m (ng (hsB (gc T) x))))) := by
  refine Sp.of' false (fun h => by cases h) (by decide) rfl rfl (Nat.le_of_ble_eq_true rfl) fun γ σ B => ?_
  have F : Fit γ 0 0 0 0 0 := fiW B (by decide) (Nat.zero_le _) (Nat.zero_le _)
  have F1 : Fit γ 0 0 1 0 0 := fiW B (by decide) (Nat.zero_le _) (Nat.zero_le _)
  have hc := hT.1
  refine B.run okX11_ofTank [] 60 ?_
  refine At.mI [vI x] [vR 0 0] B.1 (n_isTank r hT x) kX11_isTank ln_X11_114 F1 (dcV okX11_ofTank rfl) ?_
  refine B.run okX11_ofTank [] 60 ?_
  refine At.mI [vI (b2 (hsB (gc T) x))] [] B.1 (n_isFine m (hsB (gc T) x)) kX11_isFine ln_X11_167 F (dcV okX11_ofTank rfl) ?_
  refine B.run okX11_ofTank [] 60 ?_
  constructor
  · intro h
    exact rI (by rw [if_neg (by rw [b2_eq0.mp h]; decide)])
  · intro h
    have h1 := b2_ne0.mp h
    obtain ⟨i, hi, rfl⟩ := hs_of (by omega) h1
    refine B.run okX11_ofTank [] 60 ?_
    refine At.mI [vI (nI i), vI 1] [] B.1 (n_c (wT m (ng (hsB (gc T) (nI i)))) i 1 (by omega)) kX11_c ln_X11_57 F (dcV okX11_ofTank rfl) ?_
    refine B.run okX11_ofTank [] 60 ?_
    refine rI ?_
    rw [if_pos h1, nI_clamp (by omega)]
    exact (r.2.1 i hi).2.1
theorem n_capacity (r : RS T (zA m)) (hT : WF T) (x : Int32) : Sp 3 0 0 mX11_capacity [vR 0 0, vI x] (mdl m) (PoI (if hsB (gc T) x = true then gcp T x.toNatClampNeg else 0) (mdl (wT m (ng (hsB (gc T) x))))) := by
  refine Sp.of' false (fun h => by cases h) (by decide) rfl rfl (Nat.le_of_ble_eq_true rfl) fun γ σ B => ?_
  have F : Fit γ 0 0 0 0 0 := fiW B (by decide) (Nat.zero_le _) (Nat.zero_le _)
  have F2 : Fit γ 0 0 2 0 0 := fiW B (by decide) (Nat.zero_le _) (Nat.zero_le _)
  refine B.run okX11_capacity [] 60 ?_
  refine At.mI [vI x, vI 1] [] B.1 (n_ofTank1 r hT x) kX11_ofTank ln_X11_171 F2 (dcV okX11_capacity rfl) ?_
  refine B.run okX11_capacity [] 60 ?_
  exact rI rfl
theorem n_ofTank2 (r : RS T (zA m)) (hT : WF T) (x : Int32) : Sp 2 0 0 mX11_ofTank [vR 0 0, vI x, vI 2] (mdl m) (PoI (if hsB (gc T) x = true then gw T x.toNatClampNeg else 0) (mdl (wT m (ng (hsB (gc T) x))))) := by
  refine Sp.of' false (fun h => by cases h) (by decide) rfl rfl (Nat.le_of_ble_eq_true rfl) fun γ σ B => ?_
  have F : Fit γ 0 0 0 0 0 := fiW B (by decide) (Nat.zero_le _) (Nat.zero_le _)
  have F1 : Fit γ 0 0 1 0 0 := fiW B (by decide) (Nat.zero_le _) (Nat.zero_le _)
  have hc := hT.1
  refine B.run okX11_ofTank [] 60 ?_
  refine At.mI [vI x] [vR 0 0] B.1 (n_isTank r hT x) kX11_isTank ln_X11_114 F1 (dcV okX11_ofTank rfl) ?_
  refine B.run okX11_ofTank [] 60 ?_
  refine At.mI [vI (b2 (hsB (gc T) x))] [] B.1 (n_isFine m (hsB (gc T) x)) kX11_isFine ln_X11_167 F (dcV okX11_ofTank rfl) ?_
  refine B.run okX11_ofTank [] 60 ?_
  constructor
  · intro h
    exact rI (by rw [if_neg (by rw [b2_eq0.mp h]; decide)])
  · intro h
    have h1 := b2_ne0.mp h
    obtain ⟨i, hi, rfl⟩ := hs_of (by omega) h1
    refine B.run okX11_ofTank [] 60 ?_
    refine At.mI [vI (nI i), vI 2] [] B.1 (n_c (wT m (ng (hsB (gc T) (nI i)))) i 2 (by omega)) kX11_c ln_X11_57 F (dcV okX11_ofTank rfl) ?_
    refine B.run okX11_ofTank [] 60 ?_
    refine rI ?_
    rw [if_pos h1, nI_clamp (by omega)]
    exact (r.2.1 i hi).2.2.1
theorem n_water (r : RS T (zA m)) (hT : WF T) (x : Int32) : Sp 3 0 0 mX11_water [vR 0 0, vI x] (mdl m) (PoI (if hsB (gc T) x = true then gw T x.toNatClampNeg else 0) (mdl (wT m (ng (hsB (gc T) x))))) := by
  refine Sp.of' false (fun h => by cases h) (by decide) rfl rfl (Nat.le_of_ble_eq_true rfl) fun γ σ B => ?_
  have F : Fit γ 0 0 0 0 0 := fiW B (by decide) (Nat.zero_le _) (Nat.zero_le _)
  have F2 : Fit γ 0 0 2 0 0 := fiW B (by decide) (Nat.zero_le _) (Nat.zero_le _)
  refine B.run okX11_water [] 60 ?_
  refine At.mI [vI x, vI 2] [] B.1 (n_ofTank2 r hT x) kX11_ofTank ln_X11_171 F2 (dcV okX11_water rfl) ?_
  refine B.run okX11_water [] 60 ?_
  exact rI rfl
theorem n_ofTank3 (r : RS T (zA m)) (hT : WF T) (x : Int32) : Sp 2 0 0 mX11_ofTank [vR 0 0, vI x, vI 3] (mdl m) (PoI (if hsB (gc T) x = true then gl T x.toNatClampNeg else 0) (mdl (wT m (ng (hsB (gc T) x))))) := by
  refine Sp.of' false (fun h => by cases h) (by decide) rfl rfl (Nat.le_of_ble_eq_true rfl) fun γ σ B => ?_
  have F : Fit γ 0 0 0 0 0 := fiW B (by decide) (Nat.zero_le _) (Nat.zero_le _)
  have F1 : Fit γ 0 0 1 0 0 := fiW B (by decide) (Nat.zero_le _) (Nat.zero_le _)
  have hc := hT.1
  refine B.run okX11_ofTank [] 60 ?_
  refine At.mI [vI x] [vR 0 0] B.1 (n_isTank r hT x) kX11_isTank ln_X11_114 F1 (dcV okX11_ofTank rfl) ?_
  refine B.run okX11_ofTank [] 60 ?_
  refine At.mI [vI (b2 (hsB (gc T) x))] [] B.1 (n_isFine m (hsB (gc T) x)) kX11_isFine ln_X11_167 F (dcV okX11_ofTank rfl) ?_
  refine B.run okX11_ofTank [] 60 ?_
  constructor
  · intro h
    exact rI (by rw [if_neg (by rw [b2_eq0.mp h]; decide)])
  · intro h
    have h1 := b2_ne0.mp h
    obtain ⟨i, hi, rfl⟩ := hs_of (by omega) h1
    refine B.run okX11_ofTank [] 60 ?_
    refine At.mI [vI (nI i), vI 3] [] B.1 (n_c (wT m (ng (hsB (gc T) (nI i)))) i 3 (by omega)) kX11_c ln_X11_57 F (dcV okX11_ofTank rfl) ?_
    refine B.run okX11_ofTank [] 60 ?_
    refine rI ?_
    rw [if_pos h1, nI_clamp (by omega)]
    exact (r.2.1 i hi).2.2.2.1
theorem n_leak (r : RS T (zA m)) (hT : WF T) (x : Int32) : Sp 3 0 0 mX11_leak [vR 0 0, vI x] (mdl m) (PoI (if hsB (gc T) x = true then gl T x.toNatClampNeg else 0) (mdl (wT m (ng (hsB (gc T) x))))) := by
  refine Sp.of' false (fun h => by cases h) (by decide) rfl rfl (Nat.le_of_ble_eq_true rfl) fun γ σ B => ?_
  have F : Fit γ 0 0 0 0 0 := fiW B (by decide) (Nat.zero_le _) (Nat.zero_le _)
  have F2 : Fit γ 0 0 2 0 0 := fiW B (by decide) (Nat.zero_le _) (Nat.zero_le _)
  refine B.run okX11_leak [] 60 ?_
  refine At.mI [vI x, vI 3] [] B.1 (n_ofTank3 r hT x) kX11_ofTank ln_X11_171 F2 (dcV okX11_leak rfl) ?_
  refine B.run okX11_leak [] 60 ?_
  exact rI rfl
theorem n_loadOf (r : RS T (zA m)) (hT : WF T) (x : Int32) : Sp 3 0 0 mX11_loadOf [vR 0 0, vI x] (mdl m) (PoI (if hsB (gc T) x = true then ldI T x.toNatClampNeg else 0) (mdl (wT m (ng (hsB (gc T) x))))) := by
  refine Sp.of' false (fun h => by cases h) (by decide) rfl rfl (Nat.le_of_ble_eq_true rfl) fun γ σ B => ?_
  have F : Fit γ 0 0 0 0 0 := fiW B (by decide) (Nat.zero_le _) (Nat.zero_le _)
  have F1 : Fit γ 0 0 1 0 0 := fiW B (by decide) (Nat.zero_le _) (Nat.zero_le _)
  have F2 : Fit γ 0 0 2 0 0 := fiW B (by decide) (Nat.zero_le _) (Nat.zero_le _)
  have hc := hT.1
  refine B.run okX11_loadOf [] 60 ?_
  refine At.mI [vI x] [vR 0 0] B.1 (n_isTank r hT x) kX11_isTank ln_X11_114 F1 (dcV okX11_loadOf rfl) ?_
  refine B.run okX11_loadOf [] 60 ?_
  refine At.mI [vI (b2 (hsB (gc T) x))] [] B.1 (n_isFine m (hsB (gc T) x)) kX11_isFine ln_X11_167 F (dcV okX11_loadOf rfl) ?_
  refine B.run okX11_loadOf [] 60 ?_
  constructor
  · intro h
    exact rI (by rw [if_neg (by rw [b2_eq0.mp h]; decide)])
  · intro h
    have h1 := b2_ne0.mp h
    obtain ⟨i, hi, rfl⟩ := hs_of (by omega) h1
    refine B.run okX11_loadOf [] 60 ?_
    refine At.mI [vI (nI i)] [] B.1 (n_laden (m := wT m (ng (hsB (gc T) (nI i)))) r hT i hi) kX11_laden ln_X11_64 F2 (dcV okX11_loadOf rfl) ?_
    refine B.run okX11_loadOf [] 60 ?_
    exact rI (by rw [if_pos h1, nI_clamp (by omega)])
theorem n_wouldPump (r : RS T (zA m)) (hT : WF T) (x : Int32) : Sp 4 0 0 mX11_wouldPump [vR 0 0, vI x] (mdl m) (PoI (if hsB (gc T) x = true then b2 (rnB (gu T) (gw T) (gc T) (gpw T) x.toNatClampNeg) else 0) (mdl (wT m (ng (hsB (gc T) x))))) := by
  refine Sp.of' false (fun h => by cases h) (by decide) rfl rfl (Nat.le_of_ble_eq_true rfl) fun γ σ B => ?_
  have F : Fit γ 0 0 0 0 0 := fiW B (by decide) (Nat.zero_le _) (Nat.zero_le _)
  have F1 : Fit γ 0 0 1 0 0 := fiW B (by decide) (Nat.zero_le _) (Nat.zero_le _)
  have F3 : Fit γ 0 0 3 0 0 := fiW B (by decide) (Nat.zero_le _) (Nat.zero_le _)
  have hc := hT.1
  refine B.run okX11_wouldPump [] 60 ?_
  refine At.mI [vI x] [vR 0 0] B.1 (n_isTank r hT x) kX11_isTank ln_X11_114 F1 (dcV okX11_wouldPump rfl) ?_
  refine B.run okX11_wouldPump [] 60 ?_
  refine At.mI [vI (b2 (hsB (gc T) x))] [] B.1 (n_isFine m (hsB (gc T) x)) kX11_isFine ln_X11_167 F (dcV okX11_wouldPump rfl) ?_
  refine B.run okX11_wouldPump [] 60 ?_
  constructor
  · intro h
    exact ⟨Or.inl rfl, rI (by rw [if_neg (by rw [b2_eq0.mp h]; decide)])⟩
  · intro h
    have h1 := b2_ne0.mp h
    obtain ⟨i, hi, rfl⟩ := hs_of (by omega) h1
    have ei : (nI i).toNatClampNeg = i := nI_clamp (by omega)
    refine B.run okX11_wouldPump [] 60 ?_
    refine At.mI [vI (nI i)] [] B.1 (n_runs (m := wT m (ng (hsB (gc T) (nI i)))) r hT i hi) kX11_runs ln_X11_88 F3 (dcV okX11_wouldPump rfl) ?_
    refine B.run okX11_wouldPump [] 60 ?_
    constructor
    · intro h2
      exact ⟨Or.inl rfl, rI (by rw [if_pos h1, ei, b2_eq0.mp h2]; rfl)⟩
    · intro h2
      exact ⟨Or.inr rfl, rI (by rw [if_pos h1, ei, b2_ne0.mp h2]; rfl)⟩
theorem n_idAt (r : RS T (zA m)) (hT : WF T) (x : Int32) : Sp 2 0 0 mX11_idAt [vR 0 0, vI x] (mdl m) (PoI (if hsB (gp T) x = true then gid T x.toNatClampNeg else 0) (mdl (wT m (ng (hsB (gp T) x))))) := by
  refine Sp.of' false (fun h => by cases h) (by decide) rfl rfl (Nat.le_of_ble_eq_true rfl) fun γ σ B => ?_
  have F : Fit γ 0 0 0 0 0 := fiW B (by decide) (Nat.zero_le _) (Nat.zero_le _)
  have e2 : zA m 2 = nI (gp T) := r.1.2.2.1
  have hp := hT.2.1
  have SI : Sp 0 0 0 mX11_in [vI x, vI 0, vI (zA m 2 - 1)] [] (PoI (b2 (hsB (gp T) x)) []) := by
    rw [← hs_wi (by omega : gp T ≤ 1000) x, e2]
    exact n_in x 0 (nI (gp T) - 1)
  refine B.run okX11_idAt [] 60 ?_
  refine ⟨vk, ?_⟩
  refine At.mS [vI x, vI 0, vI (zA m 2 - 1)] [vR 0 0] B.1 SI kX11_in ln_X11_43 F (dcS okX11_idAt rfl) ?_
  refine B.run okX11_idAt [] 60 ?_
  refine At.mI [vI (b2 (hsB (gp T) x))] [] B.1 (n_isFine m (hsB (gp T) x)) kX11_isFine ln_X11_167 F (dcV okX11_idAt rfl) ?_
  refine B.run okX11_idAt [] 60 ?_
  constructor
  · intro h
    exact rI (by rw [if_neg (by rw [b2_eq0.mp h]; decide)])
  · intro h
    have h1 := b2_ne0.mp h
    obtain ⟨i, hi, rfl⟩ := hs_of (by omega) h1
    refine B.run okX11_idAt [] 60 ?_
    refine At.mI [vI (nI i)] [] B.1 (n_idOf (wT m (ng (hsB (gp T) (nI i)))) i (by omega)) kX11_idOf ln_X11_47 F (dcV okX11_idAt rfl) ?_
    refine B.run okX11_idAt [] 60 ?_
    refine rI ?_
    rw [if_pos h1, nI_clamp (by omega)]
    exact (r.2.2.1 i hi).1
theorem n_loggedMinute (r : RS T (zA m)) (hT : WF T) (x : Int32) : Sp 1 0 0 mX11_loggedMinute [vR 0 0, vI x] (mdl m) (PoI (if hsB (glc T) x = true then glg T x.toNatClampNeg else 0) (mdl (wT m (ng (hsB (glc T) x))))) := by
  refine Sp.of' false (fun h => by cases h) (by decide) rfl rfl (Nat.le_of_ble_eq_true rfl) fun γ σ B => ?_
  have F : Fit γ 0 0 0 0 0 := fiW B (by decide) (Nat.zero_le _) (Nat.zero_le _)
  have e8 : zA m 8 = nI (glc T) := r.1.2.2.2.2.2.2.2.2.1
  have hl := hT.2.2.2.1
  have SI : Sp 0 0 0 mX11_in [vI x, vI 0, vI (zA m 8 - 1)] [] (PoI (b2 (hsB (glc T) x)) []) := by
    rw [← hs_wi (by omega : glc T ≤ 1000) x, e8]
    exact n_in x 0 (nI (glc T) - 1)
  refine B.run okX11_loggedMinute [] 60 ?_
  refine ⟨vk, ?_⟩
  refine At.mS [vI x, vI 0, vI (zA m 8 - 1)] [vR 0 0] B.1 SI kX11_in ln_X11_43 F (dcS okX11_loggedMinute rfl) ?_
  refine B.run okX11_loggedMinute [] 60 ?_
  refine At.mI [vI (b2 (hsB (glc T) x))] [] B.1 (n_isFine m (hsB (glc T) x)) kX11_isFine ln_X11_167 F (dcV okX11_loggedMinute rfl) ?_
  refine B.run okX11_loggedMinute [] 60 ?_
  constructor
  · intro h
    exact rI (by rw [if_neg (by rw [b2_eq0.mp h]; decide)])
  · intro h
    have h1 := b2_ne0.mp h
    obtain ⟨i, hi, rfl⟩ := hs_of (by omega) h1
    have E : (110 : Int32) + nI i = nI (110 + i) := nI_add 110 i
    refine ⟨by rw [E]; exact vp_in_nI (by omega) (by decide), ?_⟩
    rw [E, nI_clamp (show 110 + i < 2 ^ 31 by omega)]
    refine rI ?_
    show zA m (110 + i) = if hsB (glc T) (nI i) = true then glg T (nI i).toNatClampNeg else 0
    rw [if_pos h1, nI_clamp (by omega)]
    exact r.2.2.2.2 i hi
theorem n_weightOf (r : RS T (zA m)) (hT : WF T) (x : Int32) : Sp 2 0 0 mX11_weightOf [vR 0 0, vI x] (mdl m) (PoI (if fUnl T x = 0 then gwt T (pq T x) else 0) (mdl (wT m (if fUnl T x = 0 then 0 else 1)))) := by
  refine Sp.of' false (fun h => by cases h) (by decide) rfl rfl (Nat.le_of_ble_eq_true rfl) fun γ σ B => ?_
  have F : Fit γ 0 0 0 0 0 := fiW B (by decide) (Nat.zero_le _) (Nat.zero_le _)
  have F1 : Fit γ 0 0 1 0 0 := fiW B (by decide) (Nat.zero_le _) (Nat.zero_le _)
  have hp := hT.2.1
  refine B.run okX11_weightOf [] 60 ?_
  refine At.mI [vI x] [vR 0 0] B.1 (n_piece r hT x) kX11_piece ln_X11_120 F1 (dcV okX11_weightOf rfl) ?_
  refine B.run okX11_weightOf [] 60 ?_
  constructor
  · intro h
    obtain ⟨hq, eq⟩ := fnd_none (by omega) h
    have ef : ¬ fUnl T x = 0 := by unfold fUnl; rw [if_neg hq]; decide
    refine B.run okX11_weightOf [] 60 ?_
    refine At.mI [vI 0] [] B.1 (n_isFine m false) kX11_isFine ln_X11_167 F (dcV okX11_weightOf rfl) ?_
    refine B.run okX11_weightOf [] 60 ?_
    constructor
    · intro _
      exact rI (by rw [if_neg ef]) (by rw [if_neg ef]; rfl)
    · intro h2
      exact absurd rfl h2
  · intro h
    obtain ⟨hq, eq⟩ := fnd_some (by omega) h
    have hq' : pq T x < gp T := hq
    have ef : fUnl T x = 0 := by unfold fUnl; rw [if_pos hq]
    refine B.run okX11_weightOf [] 60 ?_
    refine At.mI [vI 1] [] B.1 (n_isFine m true) kX11_isFine ln_X11_167 F (dcV okX11_weightOf rfl) ?_
    refine B.run okX11_weightOf [] 60 ?_
    constructor
    · intro h2
      exact absurd h2 (by decide)
    · intro _
      refine B.run okX11_weightOf [] 60 ?_
      refine At.mI [vI x] [vR 0 0] B.1 (n_piece (m := wT m 0) r hT x) kX11_piece ln_X11_120 F1 (dcV okX11_weightOf rfl) ?_
      rw [eq]
      refine B.run okX11_weightOf [] 60 ?_
      refine At.mI [vI (nI (pq T x))] [] B.1 (n_heavy (wT m 0) (pq T x) (by omega)) kX11_heavy ln_X11_54 F (dcV okX11_weightOf rfl) ?_
      refine B.run okX11_weightOf [] 60 ?_
      exact rI (by rw [if_pos ef]; exact (r.2.2.1 _ hq').2.1) (by rw [if_pos ef])
theorem n_compartmentOf (r : RS T (zA m)) (hT : WF T) (x : Int32) : Sp 2 0 0 mX11_compartmentOf [vR 0 0, vI x] (mdl m) (PoI (if fUnl T x = 0 then gpl T (pq T x) else 0) (mdl (wT m (if fUnl T x = 0 then 0 else 1)))) := by
  refine Sp.of' false (fun h => by cases h) (by decide) rfl rfl (Nat.le_of_ble_eq_true rfl) fun γ σ B => ?_
  have F : Fit γ 0 0 0 0 0 := fiW B (by decide) (Nat.zero_le _) (Nat.zero_le _)
  have F1 : Fit γ 0 0 1 0 0 := fiW B (by decide) (Nat.zero_le _) (Nat.zero_le _)
  have hp := hT.2.1
  refine B.run okX11_compartmentOf [] 60 ?_
  refine At.mI [vI x] [vR 0 0] B.1 (n_piece r hT x) kX11_piece ln_X11_120 F1 (dcV okX11_compartmentOf rfl) ?_
  refine B.run okX11_compartmentOf [] 60 ?_
  constructor
  · intro h
    obtain ⟨hq, eq⟩ := fnd_none (by omega) h
    have ef : ¬ fUnl T x = 0 := by unfold fUnl; rw [if_neg hq]; decide
    refine B.run okX11_compartmentOf [] 60 ?_
    refine At.mI [vI 0] [] B.1 (n_isFine m false) kX11_isFine ln_X11_167 F (dcV okX11_compartmentOf rfl) ?_
    refine B.run okX11_compartmentOf [] 60 ?_
    constructor
    · intro _
      exact rI (by rw [if_neg ef]) (by rw [if_neg ef]; rfl)
    · intro h2
      exact absurd rfl h2
  · intro h
    obtain ⟨hq, eq⟩ := fnd_some (by omega) h
    have hq' : pq T x < gp T := hq
    have ef : fUnl T x = 0 := by unfold fUnl; rw [if_pos hq]
    refine B.run okX11_compartmentOf [] 60 ?_
    refine At.mI [vI 1] [] B.1 (n_isFine m true) kX11_isFine ln_X11_167 F (dcV okX11_compartmentOf rfl) ?_
    refine B.run okX11_compartmentOf [] 60 ?_
    constructor
    · intro h2
      exact absurd h2 (by decide)
    · intro _
      refine B.run okX11_compartmentOf [] 60 ?_
      refine At.mI [vI x] [vR 0 0] B.1 (n_piece (m := wT m 0) r hT x) kX11_piece ln_X11_120 F1 (dcV okX11_compartmentOf rfl) ?_
      rw [eq]
      refine B.run okX11_compartmentOf [] 60 ?_
      refine At.mI [vI (nI (pq T x))] [] B.1 (n_lies (wT m 0) (pq T x) (by omega)) kX11_lies ln_X11_51 F (dcV okX11_compartmentOf rfl) ?_
      refine B.run okX11_compartmentOf [] 60 ?_
      exact rI (by rw [if_pos ef]; exact (r.2.2.1 _ hq').2.2) (by rw [if_pos ef])
theorem n_strengthAt (r : RS T (zA m)) (hT : WF T) (x : Int32) : Sp 1 0 0 mX11_strengthAt [vR 0 0, vI x] (mdl m) (PoI (if fStm T x = 0 then gsg T (tq T x) else 0) (mdl (wT m (if fStm T x = 0 then 0 else 1)))) := by
  refine Sp.of' false (fun h => by cases h) (by decide) rfl rfl (Nat.le_of_ble_eq_true rfl) fun γ σ B => ?_
  have F : Fit γ 0 0 0 0 0 := fiW B (by decide) (Nat.zero_le _) (Nat.zero_le _)
  have hp := hT.2.2.1
  refine B.run okX11_strengthAt [] 60 ?_
  refine At.mI [vI x] [vR 0 0] B.1 (n_storm r hT x) kX11_storm ln_X11_81 F (dcV okX11_strengthAt rfl) ?_
  refine B.run okX11_strengthAt [] 60 ?_
  constructor
  · intro h
    obtain ⟨hq, eq⟩ := fnd_none (by omega) h
    have ef : ¬ fStm T x = 0 := by unfold fStm; rw [if_neg hq]; decide
    refine B.run okX11_strengthAt [] 60 ?_
    refine At.mI [vI 0] [] B.1 (n_isFine m false) kX11_isFine ln_X11_167 F (dcV okX11_strengthAt rfl) ?_
    refine B.run okX11_strengthAt [] 60 ?_
    constructor
    · intro _
      exact rI (by rw [if_neg ef]) (by rw [if_neg ef]; rfl)
    · intro h2
      exact absurd rfl h2
  · intro h
    obtain ⟨hq, eq⟩ := fnd_some (by omega) h
    have hq' : tq T x < gsc T := hq
    have ef : fStm T x = 0 := by unfold fStm; rw [if_pos hq]
    refine B.run okX11_strengthAt [] 60 ?_
    refine At.mI [vI 1] [] B.1 (n_isFine m true) kX11_isFine ln_X11_167 F (dcV okX11_strengthAt rfl) ?_
    refine B.run okX11_strengthAt [] 60 ?_
    constructor
    · intro h2
      exact absurd h2 (by decide)
    · intro _
      refine B.run okX11_strengthAt [] 60 ?_
      refine At.mI [vI x] [vI 2, vI 98, vR 1 0] B.1 (n_storm (m := wT m 0) r hT x) kX11_storm ln_X11_81 F (dcV okX11_strengthAt rfl) ?_
      rw [eq]
      have ev : (if fStm T x = 0 then gsg T (tq T x) else 0) = gsg T (fst (eqB (gmi T) x) (gsc T)) := by rw [if_pos ef]; rfl
      have E : (98 : Int32) + 2 * nI (fst (eqB (gmi T) x) (gsc T)) + 1 = nI (98 + 2 * fst (eqB (gmi T) x) (gsc T) + 1) := by rw [show (98 : Int32) + 2 * nI (fst (eqB (gmi T) x) (gsc T)) = nI (98 + 2 * fst (eqB (gmi T) x) (gsc T)) from ix2 98 _, nI_1]
      generalize fst (eqB (gmi T) x) (gsc T) = q at hq E ev ⊢
      refine B.run okX11_strengthAt [] 60 ?_
      refine ⟨by rw [E]; exact vp_in_nI (by omega) (by decide), ?_⟩
      rw [E, nI_clamp (by omega)]
      exact rI (by rw [ev]; exact (r.2.2.2.1 q hq).2) (by rw [if_pos ef])
end NR
