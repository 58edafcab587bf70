/-! ===== the model: its public changes ===== -/
section NQ
variable {m : MS} {T : SH}
theorem cp0_agree (f : FI) : ∀ j, j < 116 → cpF f 0 10 j = f j := fun j hj => by
  unfold cpF
  rw [if_neg (by omega)]
theorem n_load (r : RS T (zA m)) (hT : WF T) {n : Nat} (hN : zN m = nI n) (hn : n ≤ 8) (x y : Int32) (hW : fLoad T x y = 0 → WF (ePut T x y)) : Sp 5 0 0 mX11_load [vR 0 0, vI x, vI y] (mdl m) (PoE (some (vI (if thr (fLoad T x y) 1 2 3 0 = 0 then gnx T else 0))) (fun m' => PCh (thr (fLoad T x y) 1 2 3 0) n m m' (ePut T x y))) := by
  refine Sp.of' false (fun h => by cases h) (by decide) rfl rfl (Nat.le_of_ble_eq_true rfl) fun γ σ B => ?_
  have F : Fit γ 0 0 0 0 0 := fiW B (by decide) (Nat.zero_le _) (Nat.zero_le _)
  have F1 : Fit γ 0 0 1 0 0 := fiW B (by decide) (Nat.zero_le _) (Nat.zero_le _)
  have FX : Fit γ 0 0 4 0 0 := fiW B (by decide) (Nat.zero_le _) (Nat.zero_le _)
  have r1 : RS T (zA (wA m (cpF (zA m) 0 10))) := r.agree (cp0_agree (zA m)) hT
  have hq : fLoad T x y ≤ 4 := by
    unfold fLoad
    repeat' split
    all_goals decide
  have hz : thr (fLoad T x y) 1 2 3 0 = 0 → fLoad T x y = 0 := by
    unfold fLoad
    repeat' split
    all_goals decide
  refine B.run okX11_load [] 60 ?_
  refine At.mV [] [] B.1 (n_begins m) kX11_begins ln_X11_104 F1 (dcV okX11_load rfl) ?_
  refine B.run okX11_load [] 60 ?_
  refine At.mE [vI x, vI y] [vR 0 0] B.1 (n_loads r1 hT x y) kX11_loads ln_X11_117 FX (dcV okX11_load rfl) fun m2 h2 => ?_
  have hN2 : zN m2 = nI n := by
    obtain ⟨-, ⟨y, hy⟩, -⟩ := h2
    show m2.2.1.2.1 = _
    rw [hy]
    exact hN
  refine B.run okX11_load [] 60 ?_
  refine At.mE [vI (nI (fLoad T x y)), vI (nI 1), vI (nI 2), vI (nI 3), vI (nI 0)] [] B.1 (n_ends m2 (fLoad T x y) 1 2 3 0 n hq (by decide) hN2 hn) kX11_ends ln_X11_110 F1 (dcV okX11_load rfl) fun m' hm' => ?_
  refine B.run okX11_load [] 60 ?_
  refine rEv ?_ (PCh.of (T' := ePut T x y) (fun z => hW (hz z)) hn hz h2 hm') rfl
  by_cases z : thr (fLoad T x y) 1 2 3 0 = 0
  · rw [if_pos z, if_pos z]
    exact (h2.2.2 (hz z)).2
  · rw [if_neg z, if_neg z]
theorem n_addCompartment (r : RS T (zA m)) (hT : WF T) {n : Nat} (hN : zN m = nI n) (hn : n ≤ 8) (x y : Int32) (hW : fAdd T x y = 0 → WF (eAdd T x y)) : Sp 2 0 0 mX11_addCompartment [vR 0 0, vI x, vI y] (mdl m) (PoE (some (vI (if thr (fAdd T x y) 0 1 2 0 = 0 then nI (gc T) else 0))) (fun m' => PCh (thr (fAdd T x y) 0 1 2 0) n m m' (eAdd T x y))) := by
  refine Sp.of' false (fun h => by cases h) (by decide) rfl rfl (Nat.le_of_ble_eq_true rfl) fun γ σ B => ?_
  have F : Fit γ 0 0 0 0 0 := fiW B (by decide) (Nat.zero_le _) (Nat.zero_le _)
  have F1 : Fit γ 0 0 1 0 0 := fiW B (by decide) (Nat.zero_le _) (Nat.zero_le _)
  have FX : Fit γ 0 0 1 0 0 := fiW B (by decide) (Nat.zero_le _) (Nat.zero_le _)
  have r1 : RS T (zA (wA m (cpF (zA m) 0 10))) := r.agree (cp0_agree (zA m)) hT
  have hq : fAdd T x y ≤ 4 := by
    unfold fAdd
    repeat' split
    all_goals decide
  have hz : thr (fAdd T x y) 0 1 2 0 = 0 → fAdd T x y = 0 := by
    unfold fAdd
    repeat' split
    all_goals decide
  refine B.run okX11_addCompartment [] 60 ?_
  refine At.mV [] [] B.1 (n_begins m) kX11_begins ln_X11_104 F1 (dcV okX11_addCompartment rfl) ?_
  refine B.run okX11_addCompartment [] 60 ?_
  refine At.mE [vI x, vI y] [vR 0 0] B.1 (n_adds r1 hT x y) kX11_adds ln_X11_107 FX (dcV okX11_addCompartment rfl) fun m2 h2 => ?_
  have hN2 : zN m2 = nI n := by
    obtain ⟨-, ⟨y, hy⟩, -⟩ := h2
    show m2.2.1.2.1 = _
    rw [hy]
    exact hN
  refine B.run okX11_addCompartment [] 60 ?_
  refine At.mE [vI (nI (fAdd T x y)), vI (nI 0), vI (nI 1), vI (nI 2), vI (nI 0)] [] B.1 (n_ends m2 (fAdd T x y) 0 1 2 0 n hq (by decide) hN2 hn) kX11_ends ln_X11_110 F1 (dcV okX11_addCompartment rfl) fun m' hm' => ?_
  refine B.run okX11_addCompartment [] 60 ?_
  refine rEv ?_ (PCh.of (T' := eAdd T x y) (fun z => hW (hz z)) hn hz h2 hm') rfl
  by_cases z : thr (fAdd T x y) 0 1 2 0 = 0
  · rw [if_pos z, if_pos z]
    exact (h2.2.2 (hz z)).2
  · rw [if_neg z, if_neg z]
theorem n_unload (r : RS T (zA m)) (hT : WF T) {n : Nat} (hN : zN m = nI n) (hn : n ≤ 8) (x : Int32) (hW : fUnl T x = 0 → WF (eRem T x)) : Sp 3 0 0 mX11_unload [vR 0 0, vI x] (mdl m) (PoE (some (vI (if thr (fUnl T x) 0 0 0 1 = 0 then gwt T (pq T x) else 0))) (fun m' => PCh (thr (fUnl T x) 0 0 0 1) n m m' (eRem T x))) := by
  refine Sp.of' false (fun h => by cases h) (by decide) rfl rfl (Nat.le_of_ble_eq_true rfl) fun γ σ B => ?_
  have F : Fit γ 0 0 0 0 0 := fiW B (by decide) (Nat.zero_le _) (Nat.zero_le _)
  have F1 : Fit γ 0 0 1 0 0 := fiW B (by decide) (Nat.zero_le _) (Nat.zero_le _)
  have FX : Fit γ 0 0 2 0 0 := fiW B (by decide) (Nat.zero_le _) (Nat.zero_le _)
  have r1 : RS T (zA (wA m (cpF (zA m) 0 10))) := r.agree (cp0_agree (zA m)) hT
  have hq : fUnl T x ≤ 4 := by
    unfold fUnl
    repeat' split
    all_goals decide
  have hz : thr (fUnl T x) 0 0 0 1 = 0 → fUnl T x = 0 := by
    unfold fUnl
    repeat' split
    all_goals decide
  refine B.run okX11_unload [] 60 ?_
  refine At.mV [] [] B.1 (n_begins m) kX11_begins ln_X11_104 F1 (dcV okX11_unload rfl) ?_
  refine B.run okX11_unload [] 60 ?_
  refine At.mE [vI x] [vR 0 0] B.1 (n_unloads r1 hT x) kX11_unloads ln_X11_123 FX (dcV okX11_unload rfl) fun m2 h2 => ?_
  have hN2 : zN m2 = nI n := by
    obtain ⟨-, ⟨y, hy⟩, -⟩ := h2
    show m2.2.1.2.1 = _
    rw [hy]
    exact hN
  refine B.run okX11_unload [] 60 ?_
  refine At.mE [vI (nI (fUnl T x)), vI (nI 0), vI (nI 0), vI (nI 0), vI (nI 1)] [] B.1 (n_ends m2 (fUnl T x) 0 0 0 1 n hq (by decide) hN2 hn) kX11_ends ln_X11_110 F1 (dcV okX11_unload rfl) fun m' hm' => ?_
  refine B.run okX11_unload [] 60 ?_
  refine rEv ?_ (PCh.of (T' := eRem T x) (fun z => hW (hz z)) hn hz h2 hm') rfl
  by_cases z : thr (fUnl T x) 0 0 0 1 = 0
  · rw [if_pos z, if_pos z]
    exact (h2.2.2 (hz z)).2
  · rw [if_neg z, if_neg z]
theorem n_shift (r : RS T (zA m)) (hT : WF T) {n : Nat} (hN : zN m = nI n) (hn : n ≤ 8) (x y : Int32) (hW : fShf T x y = 0 → WF (eCar T x y)) : Sp 3 0 0 mX11_shift [vR 0 0, vI x, vI y] (mdl m) (PoE (some (vI (if thr (fShf T x y) 2 0 3 1 = 0 then gpl T (pq T x) else 0))) (fun m' => PCh (thr (fShf T x y) 2 0 3 1) n m m' (eCar T x y))) := by
  refine Sp.of' false (fun h => by cases h) (by decide) rfl rfl (Nat.le_of_ble_eq_true rfl) fun γ σ B => ?_
  have F : Fit γ 0 0 0 0 0 := fiW B (by decide) (Nat.zero_le _) (Nat.zero_le _)
  have F1 : Fit γ 0 0 1 0 0 := fiW B (by decide) (Nat.zero_le _) (Nat.zero_le _)
  have FX : Fit γ 0 0 2 0 0 := fiW B (by decide) (Nat.zero_le _) (Nat.zero_le _)
  have r1 : RS T (zA (wA m (cpF (zA m) 0 10))) := r.agree (cp0_agree (zA m)) hT
  have hq : fShf T x y ≤ 4 := by
    unfold fShf
    repeat' split
    all_goals decide
  have hz : thr (fShf T x y) 2 0 3 1 = 0 → fShf T x y = 0 := by
    unfold fShf
    repeat' split
    all_goals decide
  refine B.run okX11_shift [] 60 ?_
  refine At.mV [] [] B.1 (n_begins m) kX11_begins ln_X11_104 F1 (dcV okX11_shift rfl) ?_
  refine B.run okX11_shift [] 60 ?_
  refine At.mE [vI x, vI y] [vR 0 0] B.1 (n_shifts r1 hT x y) kX11_shifts ln_X11_126 FX (dcV okX11_shift rfl) fun m2 h2 => ?_
  have hN2 : zN m2 = nI n := by
    obtain ⟨-, ⟨y, hy⟩, -⟩ := h2
    show m2.2.1.2.1 = _
    rw [hy]
    exact hN
  refine B.run okX11_shift [] 60 ?_
  refine At.mE [vI (nI (fShf T x y)), vI (nI 2), vI (nI 0), vI (nI 3), vI (nI 1)] [] B.1 (n_ends m2 (fShf T x y) 2 0 3 1 n hq (by decide) hN2 hn) kX11_ends ln_X11_110 F1 (dcV okX11_shift rfl) fun m' hm' => ?_
  refine B.run okX11_shift [] 60 ?_
  refine rEv ?_ (PCh.of (T' := eCar T x y) (fun z => hW (hz z)) hn hz h2 hm') rfl
  by_cases z : thr (fShf T x y) 2 0 3 1 = 0
  · rw [if_pos z, if_pos z]
    exact (h2.2.2 (hz z)).2
  · rw [if_neg z, if_neg z]
theorem n_setLeak (r : RS T (zA m)) (hT : WF T) {n : Nat} (hN : zN m = nI n) (hn : n ≤ 8) (x y : Int32) : Sp 3 0 0 mX11_setLeak [vR 0 0, vI x, vI y] (mdl m) (PoE (some (vI (if thr (fRat T x y) 1 2 0 0 = 0 then gl T x.toNatClampNeg else 0))) (fun m' => PCh (thr (fRat T x y) 1 2 0 0) n m m' (eLk T x y))) := by
  refine Sp.of' false (fun h => by cases h) (by decide) rfl rfl (Nat.le_of_ble_eq_true rfl) fun γ σ B => ?_
  have F : Fit γ 0 0 0 0 0 := fiW B (by decide) (Nat.zero_le _) (Nat.zero_le _)
  have F1 : Fit γ 0 0 1 0 0 := fiW B (by decide) (Nat.zero_le _) (Nat.zero_le _)
  have FX : Fit γ 0 0 2 0 0 := fiW B (by decide) (Nat.zero_le _) (Nat.zero_le _)
  have r1 : RS T (zA (wA m (cpF (zA m) 0 10))) := r.agree (cp0_agree (zA m)) hT
  have hq : fRat T x y ≤ 4 := by
    unfold fRat
    repeat' split
    all_goals decide
  have hz : thr (fRat T x y) 1 2 0 0 = 0 → fRat T x y = 0 := by
    unfold fRat
    repeat' split
    all_goals decide
  refine B.run okX11_setLeak [] 60 ?_
  refine At.mV [] [] B.1 (n_begins m) kX11_begins ln_X11_104 F1 (dcV okX11_setLeak rfl) ?_
  refine B.run okX11_setLeak [] 60 ?_
  refine At.mE [vI x, vI 3, vI y] [vR 0 0] B.1 (n_ratesL r1 hT x y) kX11_rates ln_X11_129 FX (dcV okX11_setLeak rfl) fun m2 h2 => ?_
  have hN2 : zN m2 = nI n := by
    obtain ⟨-, ⟨y, hy⟩, -⟩ := h2
    show m2.2.1.2.1 = _
    rw [hy]
    exact hN
  refine B.run okX11_setLeak [] 60 ?_
  refine At.mE [vI (nI (fRat T x y)), vI (nI 1), vI (nI 2), vI (nI 0), vI (nI 0)] [] B.1 (n_ends m2 (fRat T x y) 1 2 0 0 n hq (by decide) hN2 hn) kX11_ends ln_X11_110 F1 (dcV okX11_setLeak rfl) fun m' hm' => ?_
  refine B.run okX11_setLeak [] 60 ?_
  refine rEv ?_ (PCh.of (T' := eLk T x y) (fun _ => hT) hn hz h2 hm') rfl
  by_cases z : thr (fRat T x y) 1 2 0 0 = 0
  · rw [if_pos z, if_pos z]
    exact (h2.2.2 (hz z)).2
  · rw [if_neg z, if_neg z]
theorem n_setPump (r : RS T (zA m)) (hT : WF T) {n : Nat} (hN : zN m = nI n) (hn : n ≤ 8) (x y : Int32) : Sp 3 0 0 mX11_setPump [vR 0 0, vI x, vI y] (mdl m) (PoE (some (vI (if thr (fRat T x y) 1 2 0 0 = 0 then gu T x.toNatClampNeg else 0))) (fun m' => PCh (thr (fRat T x y) 1 2 0 0) n m m' (eGu T x y))) := by
  refine Sp.of' false (fun h => by cases h) (by decide) rfl rfl (Nat.le_of_ble_eq_true rfl) fun γ σ B => ?_
  have F : Fit γ 0 0 0 0 0 := fiW B (by decide) (Nat.zero_le _) (Nat.zero_le _)
  have F1 : Fit γ 0 0 1 0 0 := fiW B (by decide) (Nat.zero_le _) (Nat.zero_le _)
  have FX : Fit γ 0 0 2 0 0 := fiW B (by decide) (Nat.zero_le _) (Nat.zero_le _)
  have r1 : RS T (zA (wA m (cpF (zA m) 0 10))) := r.agree (cp0_agree (zA m)) hT
  have hq : fRat T x y ≤ 4 := by
    unfold fRat
    repeat' split
    all_goals decide
  have hz : thr (fRat T x y) 1 2 0 0 = 0 → fRat T x y = 0 := by
    unfold fRat
    repeat' split
    all_goals decide
  refine B.run okX11_setPump [] 60 ?_
  refine At.mV [] [] B.1 (n_begins m) kX11_begins ln_X11_104 F1 (dcV okX11_setPump rfl) ?_
  refine B.run okX11_setPump [] 60 ?_
  refine At.mE [vI x, vI 4, vI y] [vR 0 0] B.1 (n_ratesG r1 hT x y) kX11_rates ln_X11_129 FX (dcV okX11_setPump rfl) fun m2 h2 => ?_
  have hN2 : zN m2 = nI n := by
    obtain ⟨-, ⟨y, hy⟩, -⟩ := h2
    show m2.2.1.2.1 = _
    rw [hy]
    exact hN
  refine B.run okX11_setPump [] 60 ?_
  refine At.mE [vI (nI (fRat T x y)), vI (nI 1), vI (nI 2), vI (nI 0), vI (nI 0)] [] B.1 (n_ends m2 (fRat T x y) 1 2 0 0 n hq (by decide) hN2 hn) kX11_ends ln_X11_110 F1 (dcV okX11_setPump rfl) fun m' hm' => ?_
  refine B.run okX11_setPump [] 60 ?_
  refine rEv ?_ (PCh.of (T' := eGu T x y) (fun _ => hT) hn hz h2 hm') rfl
  by_cases z : thr (fRat T x y) 1 2 0 0 = 0
  · rw [if_pos z, if_pos z]
    exact (h2.2.2 (hz z)).2
  · rw [if_neg z, if_neg z]
theorem n_transfer (r : RS T (zA m)) (hT : WF T) {n : Nat} (hN : zN m = nI n) (hn : n ≤ 8) (x y a : Int32) : Sp 6 0 0 mX11_transfer [vR 0 0, vI x, vI y, vI a] (mdl m) (PoE (some (vI (if thr (fMov T x y a) 1 2 3 0 = 0 then tmI (eMov T x y a) else 0))) (fun m' => PCh (thr (fMov T x y a) 1 2 3 0) n m m' (eMov T x y a))) := by
  refine Sp.of' false (fun h => by cases h) (by decide) rfl rfl (Nat.le_of_ble_eq_true rfl) fun γ σ B => ?_
  have F : Fit γ 0 0 0 0 0 := fiW B (by decide) (Nat.zero_le _) (Nat.zero_le _)
  have F1 : Fit γ 0 0 1 0 0 := fiW B (by decide) (Nat.zero_le _) (Nat.zero_le _)
  have FX : Fit γ 0 0 5 0 0 := fiW B (by decide) (Nat.zero_le _) (Nat.zero_le _)
  have r1 : RS T (zA (wA m (cpF (zA m) 0 10))) := r.agree (cp0_agree (zA m)) hT
  have hq : fMov T x y a ≤ 4 := by
    unfold fMov
    repeat' split
    all_goals decide
  have hz : thr (fMov T x y a) 1 2 3 0 = 0 → fMov T x y a = 0 := by
    unfold fMov
    repeat' split
    all_goals decide
  refine B.run okX11_transfer [] 60 ?_
  refine At.mV [] [] B.1 (n_begins m) kX11_begins ln_X11_104 F1 (dcV okX11_transfer rfl) ?_
  refine B.run okX11_transfer [] 60 ?_
  refine At.mE [vI x, vI y, vI a] [vR 0 0] B.1 (n_transfers r1 hT x y a) kX11_transfers ln_X11_139 FX (dcV okX11_transfer rfl) fun m2 h2 => ?_
  have hN2 : zN m2 = nI n := by
    obtain ⟨-, ⟨y, hy⟩, -⟩ := h2
    show m2.2.1.2.1 = _
    rw [hy]
    exact hN
  refine B.run okX11_transfer [] 60 ?_
  refine At.mE [vI (nI (fMov T x y a)), vI (nI 1), vI (nI 2), vI (nI 3), vI (nI 0)] [] B.1 (n_ends m2 (fMov T x y a) 1 2 3 0 n hq (by decide) hN2 hn) kX11_ends ln_X11_110 F1 (dcV okX11_transfer rfl) fun m' hm' => ?_
  refine B.run okX11_transfer [] 60 ?_
  refine rEv ?_ (PCh.of (T' := eMov T x y a) (fun _ => hT) hn hz h2 hm') rfl
  by_cases z : thr (fMov T x y a) 1 2 3 0 = 0
  · rw [if_pos z, if_pos z]
    exact (h2.2.2 (hz z)).2
  · rw [if_neg z, if_neg z]
theorem n_balance (r : RS T (zA m)) (hT : WF T) {n : Nat} (hN : zN m = nI n) (hn : n ≤ 8) (a : Int32) (C : CS) : Sp 6 0 0 mX11_balance [vR 0 0, vI a] (mdl m) (PoE (some (vI (if thr (fBal T a C) 0 1 2 0 = 0 then tmI (eBal T a C) else 0))) (fun m' => PCh (thr (fBal T a C) 0 1 2 0) n m m' (eBal T a C))) := by
  refine Sp.of' false (fun h => by cases h) (by decide) rfl rfl (Nat.le_of_ble_eq_true rfl) fun γ σ B => ?_
  have F : Fit γ 0 0 0 0 0 := fiW B (by decide) (Nat.zero_le _) (Nat.zero_le _)
  have F1 : Fit γ 0 0 1 0 0 := fiW B (by decide) (Nat.zero_le _) (Nat.zero_le _)
  have FX : Fit γ 0 0 5 0 0 := fiW B (by decide) (Nat.zero_le _) (Nat.zero_le _)
  have r1 : RS T (zA (wA m (cpF (zA m) 0 10))) := r.agree (cp0_agree (zA m)) hT
  have hq : fBal T a C ≤ 4 := by
    unfold fBal fAmt
    repeat' split
    all_goals decide
  have hz : thr (fBal T a C) 0 1 2 0 = 0 → fBal T a C = 0 := by
    unfold fBal fAmt
    repeat' split
    all_goals decide
  refine B.run okX11_balance [] 60 ?_
  refine At.mV [] [] B.1 (n_begins m) kX11_begins ln_X11_104 F1 (dcV okX11_balance rfl) ?_
  refine B.run okX11_balance [] 60 ?_
  refine At.mE [vI a] [vR 0 0] B.1 (n_balances r1 hT a C) kX11_balances ln_X11_145 FX (dcV okX11_balance rfl) fun m2 h2 => ?_
  have hN2 : zN m2 = nI n := by
    obtain ⟨-, ⟨y, hy⟩, -⟩ := h2
    show m2.2.1.2.1 = _
    rw [hy]
    exact hN
  refine B.run okX11_balance [] 60 ?_
  refine At.mE [vI (nI (fBal T a C)), vI (nI 0), vI (nI 1), vI (nI 2), vI (nI 0)] [] B.1 (n_ends m2 (fBal T a C) 0 1 2 0 n hq (by decide) hN2 hn) kX11_ends ln_X11_110 F1 (dcV okX11_balance rfl) fun m' hm' => ?_
  refine B.run okX11_balance [] 60 ?_
  refine rEv ?_ (PCh.of (T' := eBal T a C) (fun _ => hT) hn hz h2 hm') rfl
  by_cases z : thr (fBal T a C) 0 1 2 0 = 0
  · rw [if_pos z, if_pos z]
    exact (h2.2.2 (hz z)).2
  · rw [if_neg z, if_neg z]
theorem n_setPower (r : RS T (zA m)) (hT : WF T) {n : Nat} (hN : zN m = nI n) (hn : n ≤ 8) (x : Int32) : Sp 2 0 0 mX11_setPower [vR 0 0, vI x] (mdl m) (PoE (some (vI (if thr (fPow x) 0 1 0 0 = 0 then gpw T else 0))) (fun m' => PCh (thr (fPow x) 0 1 0 0) n m m' (ePow T x))) := by
  refine Sp.of' false (fun h => by cases h) (by decide) rfl rfl (Nat.le_of_ble_eq_true rfl) fun γ σ B => ?_
  have F : Fit γ 0 0 0 0 0 := fiW B (by decide) (Nat.zero_le _) (Nat.zero_le _)
  have F1 : Fit γ 0 0 1 0 0 := fiW B (by decide) (Nat.zero_le _) (Nat.zero_le _)
  have FX : Fit γ 0 0 1 0 0 := fiW B (by decide) (Nat.zero_le _) (Nat.zero_le _)
  have r1 : RS T (zA (wA m (cpF (zA m) 0 10))) := r.agree (cp0_agree (zA m)) hT
  have hq : fPow x ≤ 4 := by
    unfold fPow
    repeat' split
    all_goals decide
  have hz : thr (fPow x) 0 1 0 0 = 0 → fPow x = 0 := by
    unfold fPow
    repeat' split
    all_goals decide
  refine B.run okX11_setPower [] 60 ?_
  refine At.mV [] [] B.1 (n_begins m) kX11_begins ln_X11_104 F1 (dcV okX11_setPower rfl) ?_
  refine B.run okX11_setPower [] 60 ?_
  refine At.mE [vI 4, vI x, vI 0, vI 8] [vR 0 0] B.1 (n_turnsP r1 hT x) kX11_turns ln_X11_148 FX (dcV okX11_setPower rfl) fun m2 h2 => ?_
  have hN2 : zN m2 = nI n := by
    obtain ⟨-, ⟨y, hy⟩, -⟩ := h2
    show m2.2.1.2.1 = _
    rw [hy]
    exact hN
  refine B.run okX11_setPower [] 60 ?_
  refine At.mE [vI (nI (fPow x)), vI (nI 0), vI (nI 1), vI (nI 0), vI (nI 0)] [] B.1 (n_ends m2 (fPow x) 0 1 0 0 n hq (by decide) hN2 hn) kX11_ends ln_X11_110 F1 (dcV okX11_setPower rfl) fun m' hm' => ?_
  refine B.run okX11_setPower [] 60 ?_
  refine rEv ?_ (PCh.of (T' := ePow T x) (fun _ => hT) hn hz h2 hm') rfl
  by_cases z : thr (fPow x) 0 1 0 0 = 0
  · rw [if_pos z, if_pos z]
    exact (h2.2.2 (hz z)).2
  · rw [if_neg z, if_neg z]
theorem n_setLimit (r : RS T (zA m)) (hT : WF T) {n : Nat} (hN : zN m = nI n) (hn : n ≤ 8) (x : Int32) : Sp 2 0 0 mX11_setLimit [vR 0 0, vI x] (mdl m) (PoE (some (vI (if thr (fLim x) 0 1 0 0 = 0 then glm T else 0))) (fun m' => PCh (thr (fLim x) 0 1 0 0) n m m' (eLim T x))) := by
  refine Sp.of' false (fun h => by cases h) (by decide) rfl rfl (Nat.le_of_ble_eq_true rfl) fun γ σ B => ?_
  have F : Fit γ 0 0 0 0 0 := fiW B (by decide) (Nat.zero_le _) (Nat.zero_le _)
  have F1 : Fit γ 0 0 1 0 0 := fiW B (by decide) (Nat.zero_le _) (Nat.zero_le _)
  have FX : Fit γ 0 0 1 0 0 := fiW B (by decide) (Nat.zero_le _) (Nat.zero_le _)
  have r1 : RS T (zA (wA m (cpF (zA m) 0 10))) := r.agree (cp0_agree (zA m)) hT
  have hq : fLim x ≤ 4 := by
    unfold fLim
    repeat' split
    all_goals decide
  have hz : thr (fLim x) 0 1 0 0 = 0 → fLim x = 0 := by
    unfold fLim
    repeat' split
    all_goals decide
  refine B.run okX11_setLimit [] 60 ?_
  refine At.mV [] [] B.1 (n_begins m) kX11_begins ln_X11_104 F1 (dcV okX11_setLimit rfl) ?_
  refine B.run okX11_setLimit [] 60 ?_
  refine At.mE [vI 5, vI x, vI 1, vI 9] [vR 0 0] B.1 (n_turnsL r1 hT x) kX11_turns ln_X11_148 FX (dcV okX11_setLimit rfl) fun m2 h2 => ?_
  have hN2 : zN m2 = nI n := by
    obtain ⟨-, ⟨y, hy⟩, -⟩ := h2
    show m2.2.1.2.1 = _
    rw [hy]
    exact hN
  refine B.run okX11_setLimit [] 60 ?_
  refine At.mE [vI (nI (fLim x)), vI (nI 0), vI (nI 1), vI (nI 0), vI (nI 0)] [] B.1 (n_ends m2 (fLim x) 0 1 0 0 n hq (by decide) hN2 hn) kX11_ends ln_X11_110 F1 (dcV okX11_setLimit rfl) fun m' hm' => ?_
  refine B.run okX11_setLimit [] 60 ?_
  refine rEv ?_ (PCh.of (T' := eLim T x) (fun _ => hT) hn hz h2 hm') rfl
  by_cases z : thr (fLim x) 0 1 0 0 = 0
  · rw [if_pos z, if_pos z]
    exact (h2.2.2 (hz z)).2
  · rw [if_neg z, if_neg z]
theorem n_schedule (r : RS T (zA m)) (hT : WF T) {n : Nat} (hN : zN m = nI n) (hn : n ≤ 8) (x y : Int32) {N : Nat} (hM : gmn T = nI N) (hM2 : N < 1073741824) (hW : fSch T x y = 0 → WF (schT T x y)) : Sp 2 0 0 mX11_schedule [vR 0 0, vI x, vI y] (mdl m) (PoE (some (vI (if thr (fSch T x y) 0 1 2 0 = 0 then nI (gsc T + 1) else 0))) (fun m' => PCh (thr (fSch T x y) 0 1 2 0) n m m' (schT T x y))) := by
  refine Sp.of' false (fun h => by cases h) (by decide) rfl rfl (Nat.le_of_ble_eq_true rfl) fun γ σ B => ?_
  have F : Fit γ 0 0 0 0 0 := fiW B (by decide) (Nat.zero_le _) (Nat.zero_le _)
  have F1 : Fit γ 0 0 1 0 0 := fiW B (by decide) (Nat.zero_le _) (Nat.zero_le _)
  have FX : Fit γ 0 0 1 0 0 := fiW B (by decide) (Nat.zero_le _) (Nat.zero_le _)
  have r1 : RS T (zA (wA m (cpF (zA m) 0 10))) := r.agree (cp0_agree (zA m)) hT
  have hq : fSch T x y ≤ 4 := by
    unfold fSch
    repeat' split
    all_goals decide
  have hz : thr (fSch T x y) 0 1 2 0 = 0 → fSch T x y = 0 := by
    unfold fSch
    repeat' split
    all_goals decide
  refine B.run okX11_schedule [] 60 ?_
  refine At.mV [] [] B.1 (n_begins m) kX11_begins ln_X11_104 F1 (dcV okX11_schedule rfl) ?_
  refine B.run okX11_schedule [] 60 ?_
  refine At.mE [vI x, vI y] [vR 0 0] B.1 (n_plans r1 hT hM hM2 x y) kX11_plans ln_X11_152 FX (dcV okX11_schedule rfl) fun m2 h2 => ?_
  have hN2 : zN m2 = nI n := by
    obtain ⟨-, ⟨y, hy⟩, -⟩ := h2
    show m2.2.1.2.1 = _
    rw [hy]
    exact hN
  refine B.run okX11_schedule [] 60 ?_
  refine At.mE [vI (nI (fSch T x y)), vI (nI 0), vI (nI 1), vI (nI 2), vI (nI 0)] [] B.1 (n_ends m2 (fSch T x y) 0 1 2 0 n hq (by decide) hN2 hn) kX11_ends ln_X11_110 F1 (dcV okX11_schedule rfl) fun m' hm' => ?_
  refine B.run okX11_schedule [] 60 ?_
  refine rEv ?_ (PCh.of (T' := schT T x y) (fun z => hW (hz z)) hn hz h2 hm') rfl
  by_cases z : thr (fSch T x y) 0 1 2 0 = 0
  · rw [if_pos z, if_pos z]
    exact (h2.2.2 (hz z)).2
  · rw [if_neg z, if_neg z]
theorem n_cancelStorm (r : RS T (zA m)) (hT : WF T) {n : Nat} (hN : zN m = nI n) (hn : n ≤ 8) (x : Int32) (hW : fStm T x = 0 → WF (eCan T x)) : Sp 2 0 0 mX11_cancelStorm [vR 0 0, vI x] (mdl m) (PoE (some (vI (if thr (fStm T x) 0 0 0 1 = 0 then gsg T (tq T x) else 0))) (fun m' => PCh (thr (fStm T x) 0 0 0 1) n m m' (eCan T x))) := by
  refine Sp.of' false (fun h => by cases h) (by decide) rfl rfl (Nat.le_of_ble_eq_true rfl) fun γ σ B => ?_
  have F : Fit γ 0 0 0 0 0 := fiW B (by decide) (Nat.zero_le _) (Nat.zero_le _)
  have F1 : Fit γ 0 0 1 0 0 := fiW B (by decide) (Nat.zero_le _) (Nat.zero_le _)
  have FX : Fit γ 0 0 1 0 0 := fiW B (by decide) (Nat.zero_le _) (Nat.zero_le _)
  have r1 : RS T (zA (wA m (cpF (zA m) 0 10))) := r.agree (cp0_agree (zA m)) hT
  have hq : fStm T x ≤ 4 := by
    unfold fStm
    repeat' split
    all_goals decide
  have hz : thr (fStm T x) 0 0 0 1 = 0 → fStm T x = 0 := by
    unfold fStm
    repeat' split
    all_goals decide
  refine B.run okX11_cancelStorm [] 60 ?_
  refine At.mV [] [] B.1 (n_begins m) kX11_begins ln_X11_104 F1 (dcV okX11_cancelStorm rfl) ?_
  refine B.run okX11_cancelStorm [] 60 ?_
  refine At.mE [vI x] [vR 0 0] B.1 (n_cancels r1 hT x) kX11_cancels ln_X11_155 FX (dcV okX11_cancelStorm rfl) fun m2 h2 => ?_
  have hN2 : zN m2 = nI n := by
    obtain ⟨-, ⟨y, hy⟩, -⟩ := h2
    show m2.2.1.2.1 = _
    rw [hy]
    exact hN
  refine B.run okX11_cancelStorm [] 60 ?_
  refine At.mE [vI (nI (fStm T x)), vI (nI 0), vI (nI 0), vI (nI 0), vI (nI 1)] [] B.1 (n_ends m2 (fStm T x) 0 0 0 1 n hq (by decide) hN2 hn) kX11_ends ln_X11_110 F1 (dcV okX11_cancelStorm rfl) fun m' hm' => ?_
  refine B.run okX11_cancelStorm [] 60 ?_
  refine rEv ?_ (PCh.of (T' := eCan T x) (fun z => hW (hz z)) hn hz h2 hm') rfl
  by_cases z : thr (fStm T x) 0 0 0 1 = 0
  · rw [if_pos z, if_pos z]
    exact (h2.2.2 (hz z)).2
  · rw [if_neg z, if_neg z]
theorem n_pass (r : RS T (zA m)) (hT : WF T) {n : Nat} (hN : zN m = nI n) (hn : n ≤ 8) (x : Int32) (hp : wiB x 1 120 = true → PKs x.toNatClampNeg T) : Sp 6 0 0 mX11_pass [vR 0 0, vI x] (mdl m) (PoE (some (vI (if thr (fPas T x) 0 1 2 0 = 0 then nI (tkc x.toNatClampNeg T) else 0))) (fun m' => PCh (thr (fPas T x) 0 1 2 0) n m m' (ePas T x))) := by
  refine Sp.of' false (fun h => by cases h) (by decide) rfl rfl (Nat.le_of_ble_eq_true rfl) fun γ σ B => ?_
  have F : Fit γ 0 0 0 0 0 := fiW B (by decide) (Nat.zero_le _) (Nat.zero_le _)
  have F1 : Fit γ 0 0 1 0 0 := fiW B (by decide) (Nat.zero_le _) (Nat.zero_le _)
  have FX : Fit γ 0 0 5 0 0 := fiW B (by decide) (Nat.zero_le _) (Nat.zero_le _)
  have r1 : RS T (zA (wA m (cpF (zA m) 0 10))) := r.agree (cp0_agree (zA m)) hT
  have hq : fPas T x ≤ 4 := by
    unfold fPas
    repeat' split
    all_goals decide
  have hz : thr (fPas T x) 0 1 2 0 = 0 → fPas T x = 0 := by
    unfold fPas
    repeat' split
    all_goals decide
  refine B.run okX11_pass [] 60 ?_
  refine At.mV [] [] B.1 (n_begins m) kX11_begins ln_X11_104 F1 (dcV okX11_pass rfl) ?_
  refine B.run okX11_pass [] 60 ?_
  refine At.mE [vI x] [vR 0 0] B.1 (n_passes r1 hT x hp) kX11_passes ln_X11_161 FX (dcV okX11_pass rfl) fun m2 h2 => ?_
  have hN2 : zN m2 = nI n := by
    obtain ⟨-, ⟨y, hy⟩, -⟩ := h2
    show m2.2.1.2.1 = _
    rw [hy]
    exact hN
  refine B.run okX11_pass [] 60 ?_
  refine At.mE [vI (nI (fPas T x)), vI (nI 0), vI (nI 1), vI (nI 2), vI (nI 0)] [] B.1 (n_ends m2 (fPas T x) 0 1 2 0 n hq (by decide) hN2 hn) kX11_ends ln_X11_110 F1 (dcV okX11_pass rfl) fun m' hm' => ?_
  refine B.run okX11_pass [] 60 ?_
  refine rEv ?_ (PCh.of (T' := ePas T x) (fun _ => WF_tks _ hT) hn hz h2 hm') rfl
  by_cases z : thr (fPas T x) 0 1 2 0 = 0
  · rw [if_pos z, if_pos z]
    exact (h2.2.2 (hz z)).2
  · rw [if_neg z, if_neg z]
end NQ
