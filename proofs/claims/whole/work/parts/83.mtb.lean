/-! ===== the model: means, transfers to balance ===== -/
section DC
variable {γ : CX} {own : String} {cc : ByteArray} {σ : Nat → Nat → Nat} {k n pc : Nat} {ls : List (Nat × AV)} {st : List AV} {h : AHp}
theorem At.dconst0 (O : OK γ own cc) (d : decode cc pc = .ok (.dconst 0, 1)) (g : At γ σ k n (pc + 1) ls (vD FP.dconst0 :: st) h) : At γ σ k n pc ls st h := fun η H locs lsA a b c => lv_dconst0 O.1 O.2.1 d (g η H locs lsA a b c)
theorem At.fconst0 (O : OK γ own cc) (d : decode cc pc = .ok (.fconst 0, 1)) (g : At γ σ k n (pc + 1) ls (vF FP.fconst0 :: st) h) : At γ σ k n pc ls st h := fun η H locs lsA a b c => lv_fconst0 O.1 O.2.1 d (g η H locs lsA a b c)
end DC
theorem tw_w (S : SH) (s : Nat) (v : Int32) (hs : s < gc S) : twI (stW S (upd (gw S) s v)) = twI S + (v - gw S s) := by
  have e := sumI_chg (F := fun i => ldI (stW S (upd (gw S) s v)) i) (G := fun i => ldI S i) (s := s) (fun i hi => by
    show upd (gw S) s v i + cgI (gwt S) (gpl S) (nI i) (gp S) = gw S i + cgI (gwt S) (gpl S) (nI i) (gp S)
    rw [upd_ne _ _ hi]) (gc S)
  rw [if_pos hs] at e
  have e2 : ldI (stW S (upd (gw S) s v)) s = v + cgI (gwt S) (gpl S) (nI s) (gp S) := by
    show upd (gw S) s v s + cgI (gwt S) (gpl S) (nI s) (gp S) = _
    rw [upd_eq]
  have e3 : ldI S s = gw S s + cgI (gwt S) (gpl S) (nI s) (gp S) := rfl
  show sumI (fun i => ldI (stW S (upd (gw S) s v)) i) (gc S) = sumI (fun i => ldI S i) (gc S) + _
  rw [e]
  simp only [e2, e3]
  grind
theorem tw_mov (S : SH) (s t : Nat) (a : Int32) (hs : s < gc S) (ht : t < gc S) : twI (eMovN S s t a) = twI S := by
  have e1 := tw_w S s (gw S s - a) hs
  have e2 : twI (stW (stW S (upd (gw S) s (gw S s - a))) (upd (upd (gw S) s (gw S s - a)) t (upd (gw S) s (gw S s - a) t + a))) = twI (stW S (upd (gw S) s (gw S s - a))) + (upd (gw S) s (gw S s - a) t + a - upd (gw S) s (gw S s - a) t) := tw_w (stW S (upd (gw S) s (gw S s - a))) t _ ht
  have e3 : eMovN S s t a = stW (stW S (upd (gw S) s (gw S s - a))) (upd (upd (gw S) s (gw S s - a)) t (upd (gw S) s (gw S s - a) t + a)) := rfl
  rw [e3, e2, e1]
  grind
section NTB
variable {m : MS} {T : SH}
theorem dc_meanWater : decode cX11_meanWater 38 = .ok (.dconst 0, 1) := by decide +kernel
theorem n_meanWater (r : RS T (zA m)) (hT : WF T) (hne : ¬ gc T = 0 → vf_n64 (FP.ddiv (FP.i2d (sumI (gw T) (gc T))) (FP.i2d (nI (gc T))))) : Sp 2 0 0 mX11_meanWater [vR 0 0] (mdl m) (PoA (if gc T = 0 then vD FP.dconst0 else vD (FP.ddiv (FP.i2d (sumI (gw T) (gc T))) (FP.i2d (nI (gc T))))) (mdl (wT m (if gc T = 0 then 1 else 0)))) := by
  refine Sp.of' false (fun h => by cases h) (by decide) rfl rfl (Nat.le_of_ble_eq_true rfl) fun γ σ B => ?_
  have F : Fit γ 0 0 0 0 0 := fiW B (by decide) (Nat.zero_le _) (Nat.zero_le _)
  have F1 : Fit γ 0 0 1 0 0 := fiW B (by decide) (Nat.zero_le _) (Nat.zero_le _)
  have e1 : zA m 1 = nI (gc T) := r.1.2.1
  have hc := hT.1
  refine B.run okX11_meanWater [] 60 ?_
  refine ⟨vk, ?_⟩
  constructor
  · intro h
    have h : zA m 1 ≤ 0 := h
    rw [e1] at h
    have h0 : gc T = 0 := by
      rcases Nat.eq_zero_or_pos (gc T) with z | z
      · exact z
      · exact absurd h (nI_nle z (by omega))
    refine B.run okX11_meanWater [] 60 ?_
    refine At.mI [vI 0] [] B.1 (n_isFine m false) kX11_isFine ln_X11_167 F (dcV okX11_meanWater rfl) ?_
    refine B.run okX11_meanWater [] 60 ?_
    constructor
    · intro _
      refine At.dconst0 B.1 dc_meanWater ?_
      exact At.dret B.1 B.2.1 (dc1L okX11_meanWater rfl (by simp [L1])) rfl (by decide) (by decide) (Or.inl rfl) ⟨by rw [if_pos h0], by rw [if_pos h0]; rfl⟩
    · intro w
      exact absurd rfl w
  · intro h
    have h : ¬ zA m 1 ≤ 0 := h
    rw [e1] at h
    have h0 : ¬ gc T = 0 := fun z => h (by rw [z]; decide)
    refine B.run okX11_meanWater [] 60 ?_
    refine At.mI [vI 1] [] B.1 (n_isFine m true) kX11_isFine ln_X11_167 F (dcV okX11_meanWater rfl) ?_
    refine B.run okX11_meanWater [] 60 ?_
    constructor
    · intro w
      exact absurd w (by decide)
    · intro _
      refine B.run okX11_meanWater [] 60 ?_
      refine At.mI [vI 2] [] B.1 (n_sum2 (m := wT m 0) r hT) kX11_sum ln_X11_193 F1 (dcV okX11_meanWater rfl) ?_
      refine At.i2d B.1 (dc1L okX11_meanWater rfl (by simp [L1])) ?_
      refine B.run okX11_meanWater [] 60 ?_
      refine ⟨vk, ?_⟩
      rw [show zA m (Int32.toNatClampNeg 1) = nI (gc T) from e1]
      refine At.i2d B.1 (dc1L okX11_meanWater rfl (by simp [L1])) ?_
      refine At.ddiv B.1 (hne h0) (dc1L okX11_meanWater rfl (by simp [L1])) ?_
      refine B.run okX11_meanWater [] 60 ?_
      exact At.dret B.1 B.2.1 (dc1L okX11_meanWater rfl (by simp [L1])) rfl (by decide) (by decide) (Or.inl rfl) ⟨by rw [if_neg h0], by rw [if_neg h0]⟩
theorem dc_fillShare : decode cX11_fillShare 37 = .ok (.fconst 0, 1) := by decide +kernel
theorem n_fillShare (r : RS T (zA m)) (hT : WF T) (hne : ¬ gc T = 0 → vf_n32 (FP.fdiv (FP.i2f (sumI (gw T) (gc T))) (FP.i2f (sumI (gcp T) (gc T))))) : Sp 2 0 0 mX11_fillShare [vR 0 0] (mdl m) (PoA (if gc T = 0 then vF FP.fconst0 else vF (FP.fdiv (FP.i2f (sumI (gw T) (gc T))) (FP.i2f (sumI (gcp T) (gc T))))) (mdl (wT m (if gc T = 0 then 1 else 0)))) := by
  refine Sp.of' false (fun h => by cases h) (by decide) rfl rfl (Nat.le_of_ble_eq_true rfl) fun γ σ B => ?_
  have F : Fit γ 0 0 0 0 0 := fiW B (by decide) (Nat.zero_le _) (Nat.zero_le _)
  have F1 : Fit γ 0 0 1 0 0 := fiW B (by decide) (Nat.zero_le _) (Nat.zero_le _)
  have e1 : zA m 1 = nI (gc T) := r.1.2.1
  have hc := hT.1
  refine B.run okX11_fillShare [] 60 ?_
  refine ⟨vk, ?_⟩
  constructor
  · intro h
    have h : zA m 1 ≤ 0 := h
    rw [e1] at h
    have h0 : gc T = 0 := by
      rcases Nat.eq_zero_or_pos (gc T) with z | z
      · exact z
      · exact absurd h (nI_nle z (by omega))
    refine B.run okX11_fillShare [] 60 ?_
    refine At.mI [vI 0] [] B.1 (n_isFine m false) kX11_isFine ln_X11_167 F (dcV okX11_fillShare rfl) ?_
    refine B.run okX11_fillShare [] 60 ?_
    constructor
    · intro _
      refine At.fconst0 B.1 dc_fillShare ?_
      exact At.fret B.1 B.2.1 (dc1L okX11_fillShare rfl (by simp [L1])) rfl (by decide) (by decide) (Or.inl rfl) ⟨by rw [if_pos h0], by rw [if_pos h0]; rfl⟩
    · intro w
      exact absurd rfl w
  · intro h
    have h : ¬ zA m 1 ≤ 0 := h
    rw [e1] at h
    have h0 : ¬ gc T = 0 := fun z => h (by rw [z]; decide)
    refine B.run okX11_fillShare [] 60 ?_
    refine At.mI [vI 1] [] B.1 (n_isFine m true) kX11_isFine ln_X11_167 F (dcV okX11_fillShare rfl) ?_
    refine B.run okX11_fillShare [] 60 ?_
    constructor
    · intro w
      exact absurd w (by decide)
    · intro _
      refine B.run okX11_fillShare [] 60 ?_
      refine At.mI [vI 2] [] B.1 (n_sum2 (m := wT m 0) r hT) kX11_sum ln_X11_193 F1 (dcV okX11_fillShare rfl) ?_
      refine At.i2f B.1 (dc1L okX11_fillShare rfl (by simp [L1])) ?_
      refine B.run okX11_fillShare [] 60 ?_
      refine At.mI [vI 1] [vF (FP.i2f (sumI (gw T) (gc T)))] B.1 (n_sum1 (m := wT m 0) r hT) kX11_sum ln_X11_193 F1 (dcV okX11_fillShare rfl) ?_
      refine At.i2f B.1 (dc1L okX11_fillShare rfl (by simp [L1])) ?_
      refine At.fdiv B.1 (hne h0) (dc1L okX11_fillShare rfl (by simp [L1])) ?_
      refine B.run okX11_fillShare [] 60 ?_
      exact At.fret B.1 B.2.1 (dc1L okX11_fillShare rfl (by simp [L1])) rfl (by decide) (by decide) (Or.inl rfl) ⟨by rw [if_neg h0], by rw [if_neg h0]⟩
theorem n_isEven (r : RS T (zA m)) (hT : WF T) (hw : ¬ twI T + 100 = 0) : Sp 4 0 0 mX11_isEven [vR 0 0] (mdl m) (PoI (b2 (decide (absI (tmI T / (twI T + 100)) ≤ glm T))) (mdl m)) := by
  refine Sp.of' false (fun h => by cases h) (by decide) rfl rfl (Nat.le_of_ble_eq_true rfl) fun γ σ B => ?_
  have F : Fit γ 0 0 0 0 0 := fiW B (by decide) (Nat.zero_le _) (Nat.zero_le _)
  have F3 : Fit γ 0 0 3 0 0 := fiW B (by decide) (Nat.zero_le _) (Nat.zero_le _)
  have e5 : zA m 5 = glm T := r.1.2.2.2.2.2.1
  refine B.run okX11_isEven [] 60 ?_
  refine At.mI [] [] B.1 (n_turning r hT) kX11_turning ln_X11_95 F3 (dcV okX11_isEven rfl) ?_
  refine B.run okX11_isEven [] 60 ?_
  refine At.mI [] [vI (tmI T)] B.1 (n_total r hT) kX11_total ln_X11_91 F3 (dcV okX11_isEven rfl) ?_
  refine B.run okX11_isEven [] 60 ?_
  refine ⟨hw, ?_⟩
  refine At.mS [vI (tmI T / (twI T + 100))] [] B.1 (n_size (tmI T / (twI T + 100))) kX11_size ln_X11_98 F (dcS okX11_isEven rfl) ?_
  refine B.run okX11_isEven [] 60 ?_
  refine ⟨vk, ?_⟩
  constructor
  · intro h
    have h : zA m 5 < absI (tmI T / (twI T + 100)) := h
    rw [e5] at h
    exact rFa (decide_eq_false (Int32.not_le.mpr h))
  · intro h
    have h : ¬ zA m 5 < absI (tmI T / (twI T + 100)) := h
    rw [e5] at h
    exact rT (decide_eq_true (Int32.not_lt.mp h))
end NTB
