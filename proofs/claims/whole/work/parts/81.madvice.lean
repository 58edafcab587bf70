/-! ===== the model: advice; undo, save, restore; means ===== -/
section NA
variable {m : MS} {T : SH}
theorem fBT_b {T : SH} {a : Int32} {C : CS} (h : wiB a 1 200 = false) : fBT T a C = 2 := by
  have ef : fAmt a = 2 := by unfold fAmt; rw [if_neg (by rw [h]; decide)]
  unfold fBT
  rw [ef]
  rfl
theorem fBT_g {T : SH} {a : Int32} {C : CS} (h : wiB a 1 200 = true) : fBT T a C = if (bS T a (tmI T) C).1 = 0 then 4 else 0 := by
  have ef : fAmt a = 0 := by unfold fAmt; rw [if_pos h]
  unfold fBT
  rw [ef]
  rfl
theorem n_advice (r : RS T (zA m)) (hT : WF T) (a : Int32) (C : CS) : Sp 5 0 0 mX11_advice [vR 0 0, vI a] (mdl m) (PoI (if fBT T a C = 0 then fnC (bS T a (tmI T) C) else 0) (mdl (wT m (nI (thr (fBT T a C) 0 1 0 2))))) := by
  refine Sp.of' false (fun h => by cases h) (by decide) rfl rfl (Nat.le_of_ble_eq_true rfl) fun γ σ B => ?_
  have F : Fit γ 0 0 0 0 0 := fiW B (by decide) (Nat.zero_le _) (Nat.zero_le _)
  have F1 : Fit γ 0 0 1 0 0 := fiW B (by decide) (Nat.zero_le _) (Nat.zero_le _)
  have F4 : Fit γ 0 0 4 0 0 := fiW B (by decide) (Nat.zero_le _) (Nat.zero_le _)
  have cin := CIn_bst T a (tmI T) C
  have hc := hT.1
  have fin : ∀ (t : Nat) (y : Int32), t = thr (fBT T a C) 0 1 0 2 → (t = 0 ↔ fBT T a C = 0) → (t = 0 → y = fnC (bS T a (tmI T) C)) → t < 100 → At γ σ 0 0 38 [(0, vR 0 0), (1, vI a), (2, vI y)] [vI (nI t), vR 0 0] (mdl m) := by
    intro t y ht h0 hy hl
    refine B.run okX11_advice [] 60 ?_
    refine ⟨trivial, ?_⟩
    constructor
    · intro h
      have z : t = 0 := (nI_eq (by omega) (by decide)).mp (show nI t = nI 0 from h)
      exact rI (by rw [if_pos (h0.mp z), hy z]) (by rw [← ht]; rfl)
    · intro h
      have z : ¬ t = 0 := fun w => h (by rw [w]; rfl)
      exact rI (by rw [if_neg (fun w => z (h0.mpr w))]) (by rw [← ht]; rfl)
  have mid : ∀ y : Int32, (wiB a 1 200 = true → y = fnC (bS T a (tmI T) C)) → At γ σ 0 0 16 [(0, vR 0 0), (1, vI a)] [vI y] (mdl m) := by
    intro y hy
    refine B.run okX11_advice [(38, [0, 1, 2])] 60 ?_
    refine At.mS [vI a] [vR 0 0] B.1 (n_isAmount a) kX11_isAmount ln_X11_133 F1 (dcS okX11_advice rfl) ?_
    refine B.run okX11_advice [(38, [0, 1, 2])] 60 ?_
    constructor
    · intro h
      have ef := fBT_b (T := T) (C := C) (b2_eq0.mp h)
      have z := fin 1 y (by rw [ef]; rfl) (by rw [ef]; decide) (fun w => by cases w) (by decide)
      exact z
    · intro h
      have hb := b2_ne0.mp h
      have ef := fBT_g (T := T) (C := C) hb
      have ey := hy hb
      constructor
      · intro h2
        have hx : ¬ (bS T a (tmI T) C).1 = 0 := fun z => absurd h2 (Int32.not_le.mpr (by rw [ey]; exact (fnC_neg cin hc).mpr z))
        rw [if_neg hx] at ef
        have z := fin 0 y (by rw [ef]; rfl) (by rw [ef]) (fun _ => ey) (by decide)
        exact z
      · intro h2
        have hx : (bS T a (tmI T) C).1 = 0 := (fnC_neg cin hc).mp (by rw [← ey]; exact Int32.not_le.mp h2)
        rw [if_pos hx] at ef
        have z := fin 2 y (by rw [ef]; rfl) (by rw [ef]; decide) (fun w => by cases w) (by decide)
        exact z
  refine B.run okX11_advice [(16, [0, 1])] 60 ?_
  refine At.mS [vI a] [] B.1 (n_isAmount a) kX11_isAmount ln_X11_133 F1 (dcS okX11_advice rfl) ?_
  refine B.run okX11_advice [(16, [0, 1])] 60 ?_
  constructor
  · intro h
    exact mid _ (fun w => by rw [b2_eq0.mp h] at w; cases w)
  · intro h
    refine B.run okX11_advice [(16, [0, 1])] 60 ?_
    refine At.mI [vI a] [] B.1 (n_best r hT a C) kX11_best ln_X11_142 F4 (dcV okX11_advice rfl) ?_
    refine B.run okX11_advice [(16, [0, 1])] 60 ?_
    exact mid _ (fun _ => rfl)
/-- the parts of the advice -/
theorem fBT_st {T : SH} (hT : WF T) {a : Int32} {C : CS} (h : fBT T a C = 0) : ∃ s t, s < gc T ∧ t < gc T ∧ (bS T a (tmI T) C).2.1 = nI s ∧ (bS T a (tmI T) C).2.2.1 = nI t ∧ (bS T a (tmI T) C).2.2.2 = tmI T + a * (gar T t - gar T s) ∧ fnC (bS T a (tmI T) C) = nI (8 * s + t) := by
  have hx : ¬ (bS T a (tmI T) C).1 = 0 := by
    intro z
    unfold fBT at h
    rw [z] at h
    by_cases q : fAmt a = 0
    · rw [if_pos q, if_pos rfl] at h; cases h
    · rw [if_neg q] at h; exact q h
  obtain z | ⟨s, t, hs, ht, e1, e2, e3⟩ := CIm_bst T a (tmI T) C
  · exact absurd z hx
  · exact ⟨s, t, hs, ht, e1, e2, e3, by unfold fnC; rw [if_neg hx, e1, e2, ix8]⟩
theorem n_bestSource (r : RS T (zA m)) (hT : WF T) (a : Int32) (C : CS) : Sp 6 0 0 mX11_bestSource [vR 0 0, vI a] (mdl m) (PoI (if fBT T a C = 0 then (bS T a (tmI T) C).2.1 else 0) (mdl (wT m (nI (thr (fBT T a C) 0 1 0 2))))) := by
  refine Sp.of' false (fun h => by cases h) (by decide) rfl rfl (Nat.le_of_ble_eq_true rfl) fun γ σ B => ?_
  have F : Fit γ 0 0 0 0 0 := fiW B (by decide) (Nat.zero_le _) (Nat.zero_le _)
  have F5 : Fit γ 0 0 5 0 0 := fiW B (by decide) (Nat.zero_le _) (Nat.zero_le _)
  have hc := hT.1
  refine B.run okX11_bestSource [] 60 ?_
  refine At.mI [vI a] [] B.1 (n_advice r hT a C) kX11_advice ln_X11_183 F5 (dcV okX11_bestSource rfl) ?_
  refine B.run okX11_bestSource [] 60 ?_
  refine ⟨by decide, ?_⟩
  refine rI ?_
  by_cases h : fBT T a C = 0
  · obtain ⟨s, t, hs, ht, e1, e2, e3, e4⟩ := fBT_st hT h
    rw [if_pos h, if_pos h, e1, e4, div8 _ (by omega), show (8 * s + t) / 8 = s by omega]
  · rw [if_neg h, if_neg h]; rfl
theorem n_bestTarget (r : RS T (zA m)) (hT : WF T) (a : Int32) (C : CS) : Sp 6 0 0 mX11_bestTarget [vR 0 0, vI a] (mdl m) (PoI (if fBT T a C = 0 then (bS T a (tmI T) C).2.2.1 else 0) (mdl (wT m (nI (thr (fBT T a C) 0 1 0 2))))) := by
  refine Sp.of' false (fun h => by cases h) (by decide) rfl rfl (Nat.le_of_ble_eq_true rfl) fun γ σ B => ?_
  have F : Fit γ 0 0 0 0 0 := fiW B (by decide) (Nat.zero_le _) (Nat.zero_le _)
  have F5 : Fit γ 0 0 5 0 0 := fiW B (by decide) (Nat.zero_le _) (Nat.zero_le _)
  have hc := hT.1
  refine B.run okX11_bestTarget [] 60 ?_
  refine At.mI [vI a] [] B.1 (n_advice r hT a C) kX11_advice ln_X11_183 F5 (dcV okX11_bestTarget rfl) ?_
  refine B.run okX11_bestTarget [] 60 ?_
  refine ⟨by decide, ?_⟩
  refine rI ?_
  by_cases h : fBT T a C = 0
  · obtain ⟨s, t, hs, ht, e1, e2, e3, e4⟩ := fBT_st hT h
    rw [if_pos h, if_pos h, e2, e4, mod8 _ (by omega), show (8 * s + t) % 8 = t by omega]
  · rw [if_neg h, if_neg h]; rfl
theorem n_bestMoment (r : RS T (zA m)) (hT : WF T) (a : Int32) (C : CS) : Sp 6 0 0 mX11_bestMoment [vR 0 0, vI a] (mdl m) (PoI (if fBT T a C = 0 then (bS T a (tmI T) C).2.2.2 else 0) (mdl (wT m (nI (thr (fBT T a C) 0 1 0 2))))) := by
  refine Sp.of' false (fun h => by cases h) (by decide) rfl rfl (Nat.le_of_ble_eq_true rfl) fun γ σ B => ?_
  have F : Fit γ 0 0 0 0 0 := fiW B (by decide) (Nat.zero_le _) (Nat.zero_le _)
  have F3 : Fit γ 0 0 3 0 0 := fiW B (by decide) (Nat.zero_le _) (Nat.zero_le _)
  have F5 : Fit γ 0 0 5 0 0 := fiW B (by decide) (Nat.zero_le _) (Nat.zero_le _)
  have hc := hT.1
  refine B.run okX11_bestMoment [] 60 ?_
  refine At.mI [vI a] [] B.1 (n_advice r hT a C) kX11_advice ln_X11_183 F5 (dcV okX11_bestMoment rfl) ?_
  by_cases h : fBT T a C = 0
  · obtain ⟨s, t, hs, ht, e1, e2, e3, e4⟩ := fBT_st hT h
    have et : (nI (thr (fBT T a C) 0 1 0 2)) = 0 := by rw [h]; rfl
    have ev : (if fBT T a C = 0 then (bS T a (tmI T) C).2.2.2 else 0) = tmI T + a * (gar T t - gar T s) := by rw [if_pos h, e3]
    rw [if_pos h, e4]
    refine B.run okX11_bestMoment [] 60 ?_
    constructor
    · intro _
      refine B.run okX11_bestMoment [] 60 ?_
      refine At.mI [] [] B.1 (n_turning (m := wT m (nI (thr (fBT T a C) 0 1 0 2))) r hT) kX11_turning ln_X11_95 F3 (dcV okX11_bestMoment rfl) ?_
      refine B.run okX11_bestMoment [] 60 ?_
      refine ⟨by decide, ?_⟩
      have S1 : Sp 0 0 0 mX11_c [vR 0 0, vI (nI (8 * s + t) - nI (8 * s + t) / 8 * 8), vI 0] (mdl (wT m (nI (thr (fBT T a C) 0 1 0 2)))) (PoI (gar T t) (mdl (wT m (nI (thr (fBT T a C) 0 1 0 2))))) := by
        rw [mod8 _ (by omega), show (8 * s + t) % 8 = t by omega]
        have z := n_c (wT m (nI (thr (fBT T a C) 0 1 0 2))) t 0 (by omega)
        rw [show zA (wT m (nI (thr (fBT T a C) 0 1 0 2))) (10 + 5 * t + 0) = gar T t from (r.2.1 t ht).1] at z
        exact z
      have S2 : Sp 0 0 0 mX11_c [vR 0 0, vI (nI (8 * s + t) / 8), vI 0] (mdl (wT m (nI (thr (fBT T a C) 0 1 0 2)))) (PoI (gar T s) (mdl (wT m (nI (thr (fBT T a C) 0 1 0 2))))) := by
        rw [div8 _ (by omega), show (8 * s + t) / 8 = s by omega]
        have z := n_c (wT m (nI (thr (fBT T a C) 0 1 0 2))) s 0 (by omega)
        rw [show zA (wT m (nI (thr (fBT T a C) 0 1 0 2))) (10 + 5 * s + 0) = gar T s from (r.2.1 s hs).1] at z
        exact z
      refine At.mI [vI (nI (8 * s + t) - nI (8 * s + t) / 8 * 8), vI 0] [vI a, vI (tmI T)] B.1 S1 kX11_c ln_X11_57 F (dcV okX11_bestMoment rfl) ?_
      refine B.run okX11_bestMoment [] 60 ?_
      refine ⟨by decide, ?_⟩
      refine At.mI [vI (nI (8 * s + t) / 8), vI 0] [vI (gar T t), vI a, vI (tmI T)] B.1 S2 kX11_c ln_X11_57 F (dcV okX11_bestMoment rfl) ?_
      refine B.run okX11_bestMoment [] 60 ?_
      exact rI (by rw [ev])
    · intro h2
      exact absurd et h2
  · have et : ¬ (nI (thr (fBT T a C) 0 1 0 2)) = 0 := by
      have : fBT T a C = 4 ∨ fBT T a C = 2 := by
        cases q : wiB a 1 200 with
        | true =>
          rw [fBT_g q] at h ⊢
          by_cases z : (bS T a (tmI T) C).1 = 0
          · rw [if_pos z]; exact Or.inl rfl
          · rw [if_neg z] at h; exact absurd rfl h
        | false => exact Or.inr (fBT_b q)
      rcases this with e | e <;> rw [e] <;> decide
    refine B.run okX11_bestMoment [] 60 ?_
    constructor
    · intro h2
      exact absurd h2 et
    · intro _
      exact rI (by rw [if_neg h])
theorem n_sum2 (r : RS T (zA m)) (hT : WF T) : Sp 1 0 0 mX11_sum [vR 0 0, vI 2] (mdl m) (PoI (sumI (gw T) (gc T)) (mdl m)) := by
  refine Sp.of' false (fun h => by cases h) (by decide) rfl rfl (Nat.le_of_ble_eq_true rfl) fun γ σ B => ?_
  have F : Fit γ 0 0 0 0 0 := fiW B (by decide) (Nat.zero_le _) (Nat.zero_le _)
  have e1 : zA m 1 = nI (gc T) := r.1.2.1
  have hc := hT.1
  have loop : ∀ (j i : Nat), i + j = gc T → At γ σ 0 0 4 [(0, vR 0 0), (1, vI 2), (2, vI (sumI (gw T) i)), (3, vI (nI i))] [] (mdl m) := by
    intro j
    induction j with
    | zero =>
      intro i hi
      have hi : i = gc T := by omega
      refine B.run okX11_sum [(4, [0, 1, 2, 3])] 60 ?_
      refine ⟨vk, ?_⟩
      constructor
      · intro _
        exact rI (by rw [hi])
      · intro h
        have h : ¬ zA m 1 ≤ nI i := h
        rw [e1] at h
        exact absurd (nI_le (by omega) (by omega)) h
    | succ j ih =>
      intro i hi
      refine B.run okX11_sum [(4, [0, 1, 2, 3])] 60 ?_
      refine ⟨vk, ?_⟩
      constructor
      · intro h
        have h : zA m 1 ≤ nI i := h
        rw [e1] at h
        exact absurd h (nI_ge (by omega) (by omega))
      · intro _
        refine B.run okX11_sum [(4, [0, 1, 2, 3])] 60 ?_
        refine At.mI [vI (nI i), vI 2] [vI (sumI (gw T) i)] B.1 (n_c m i 2 (by omega)) kX11_c ln_X11_57 F (dcV okX11_sum rfl) ?_
        rw [show zA m (10 + 5 * i + 2) = gw T i from (r.2.1 i (by omega)).2.2.1]
        refine B.run okX11_sum [(4, [0, 1, 2, 3])] 60 ?_
        have z := ih (i + 1) (by omega)
        rw [← nI_1] at z
        exact z
  refine B.run okX11_sum [(4, [0, 1, 2, 3])] 60 ?_
  exact loop (gc T) 0 (by omega)
theorem n_sum1 (r : RS T (zA m)) (hT : WF T) : Sp 1 0 0 mX11_sum [vR 0 0, vI 1] (mdl m) (PoI (sumI (gcp T) (gc T)) (mdl m)) := by
  refine Sp.of' false (fun h => by cases h) (by decide) rfl rfl (Nat.le_of_ble_eq_true rfl) fun γ σ B => ?_
  have F : Fit γ 0 0 0 0 0 := fiW B (by decide) (Nat.zero_le _) (Nat.zero_le _)
  have e1 : zA m 1 = nI (gc T) := r.1.2.1
  have hc := hT.1
  have loop : ∀ (j i : Nat), i + j = gc T → At γ σ 0 0 4 [(0, vR 0 0), (1, vI 1), (2, vI (sumI (gcp T) i)), (3, vI (nI i))] [] (mdl m) := by
    intro j
    induction j with
    | zero =>
      intro i hi
      have hi : i = gc T := by omega
      refine B.run okX11_sum [(4, [0, 1, 2, 3])] 60 ?_
      refine ⟨vk, ?_⟩
      constructor
      · intro _
        exact rI (by rw [hi])
      · intro h
        have h : ¬ zA m 1 ≤ nI i := h
        rw [e1] at h
        exact absurd (nI_le (by omega) (by omega)) h
    | succ j ih =>
      intro i hi
      refine B.run okX11_sum [(4, [0, 1, 2, 3])] 60 ?_
      refine ⟨vk, ?_⟩
      constructor
      · intro h
        have h : zA m 1 ≤ nI i := h
        rw [e1] at h
        exact absurd h (nI_ge (by omega) (by omega))
      · intro _
        refine B.run okX11_sum [(4, [0, 1, 2, 3])] 60 ?_
        refine At.mI [vI (nI i), vI 1] [vI (sumI (gcp T) i)] B.1 (n_c m i 1 (by omega)) kX11_c ln_X11_57 F (dcV okX11_sum rfl) ?_
        rw [show zA m (10 + 5 * i + 1) = gcp T i from (r.2.1 i (by omega)).2.1]
        refine B.run okX11_sum [(4, [0, 1, 2, 3])] 60 ?_
        have z := ih (i + 1) (by omega)
        rw [← nI_1] at z
        exact z
  refine B.run okX11_sum [(4, [0, 1, 2, 3])] 60 ?_
  exact loop (gc T) 0 (by omega)
theorem n_undo (m : MS) {n : Nat} (hN : zN m = nI n) (hn : n ≤ 8) : Sp 1 0 0 mX11_undo [vR 0 0] (mdl m) (PoI (if n = 0 then 0 else nI (n - 1)) (mdl (if n = 0 then wT m 1 else wN (wT (wA m (cpF (zA m) n 0)) 0) (nI (n - 1))))) := by
  refine Sp.of' false (fun h => by cases h) (by decide) rfl rfl (Nat.le_of_ble_eq_true rfl) fun γ σ B => ?_
  have F : Fit γ 0 0 0 0 0 := fiW B (by decide) (Nat.zero_le _) (Nat.zero_le _)
  refine B.run okX11_undo [] 60 ?_
  constructor
  · intro h
    have h : zN m ≤ 0 := h
    rw [hN] at h
    have h0 : n = 0 := by
      rcases Nat.eq_zero_or_pos n with z | z
      · exact z
      · exact absurd h (nI_nle z (by omega))
    refine B.run okX11_undo [] 60 ?_
    refine At.mI [vI 0] [] B.1 (n_isFine m false) kX11_isFine ln_X11_167 F (dcV okX11_undo rfl) ?_
    refine B.run okX11_undo [] 60 ?_
    constructor
    · intro _
      exact rI (by rw [if_pos h0]) (by rw [if_pos h0]; rfl)
    · intro h2
      exact absurd rfl h2
  · intro h
    have h : ¬ zN m ≤ 0 := h
    rw [hN] at h
    have h0 : 0 < n := by
      rcases Nat.eq_zero_or_pos n with z | z
      · rw [z] at h; exact absurd (show nI 0 ≤ 0 by decide) h
      · exact z
    refine B.run okX11_undo [] 60 ?_
    refine At.mI [vI 1] [] B.1 (n_isFine m true) kX11_isFine ln_X11_167 F (dcV okX11_undo rfl) ?_
    refine B.run okX11_undo [] 60 ?_
    constructor
    · intro h2
      exact absurd h2 (by decide)
    · intro _
      refine B.run okX11_undo [] 60 ?_
      have SC := n_copies (wT m 0) n 0 (by omega) (by decide) (by omega)
      rw [← hN] at SC
      refine At.mV [vI (zN m), vI 0] [] B.1 SC kX11_copies ln_X11_33 F (dcV okX11_undo rfl) ?_
      refine B.run okX11_undo [] 60 ?_
      have en : zN m - 1 = nI (n - 1) := by rw [hN, show n = n - 1 + 1 by omega, nI_pred]; rfl
      refine ⟨trivial, rI ?_ ?_⟩
      · rw [if_neg (by omega)]; exact en
      · rw [if_neg (by omega), ← en]; rfl
theorem n_save (r : RS T (zA m)) : Sp 1 0 0 mX11_save [vR 0 0] (mdl m) (PoI (nI (gc T)) (mdl (wV (wT (wA m (cpF (zA m) 0 9)) 0) 1))) := by
  refine Sp.of' false (fun h => by cases h) (by decide) rfl rfl (Nat.le_of_ble_eq_true rfl) fun γ σ B => ?_
  have F : Fit γ 0 0 0 0 0 := fiW B (by decide) (Nat.zero_le _) (Nat.zero_le _)
  refine B.run okX11_save [] 60 ?_
  refine ⟨trivial, Or.inr rfl, ?_⟩
  refine At.mV [vI 0, vI 9] [] B.1 (n_copies (wV (wT m 0) 1) 0 9 (by decide) (by decide) (by decide)) kX11_copies ln_X11_33 F (dcV okX11_save rfl) ?_
  refine B.run okX11_save [] 60 ?_
  refine ⟨vk, ?_⟩
  refine rI ?_
  show cpF (zA m) 0 9 1 = _
  unfold cpF
  rw [if_neg (by decide)]
  exact r.1.2.1
theorem n_restore (m : MS) (b : Bool) (hb : zV m = b2 b) : Sp 1 0 0 mX11_restore [vR 0 0] (mdl m) (PoI (if b = true then zA m (116 * 9 + 1) else 0) (mdl (if b = true then wN (wT (wA m (cpF (zA m) 9 0)) 0) 0 else wT m 1))) := by
  refine Sp.of' false (fun h => by cases h) (by decide) rfl rfl (Nat.le_of_ble_eq_true rfl) fun γ σ B => ?_
  have F : Fit γ 0 0 0 0 0 := fiW B (by decide) (Nat.zero_le _) (Nat.zero_le _)
  have SF := n_isFine m b
  rw [← hb] at SF
  refine B.run okX11_restore [] 60 ?_
  refine At.mI [vI (zV m)] [] B.1 SF kX11_isFine ln_X11_167 F (dcV okX11_restore rfl) ?_
  rw [hb]
  refine B.run okX11_restore [] 60 ?_
  constructor
  · intro h
    have h0 := b2_eq0.mp h
    exact rI (by rw [if_neg (by rw [h0]; decide)]) (by rw [h0]; rfl)
  · intro h
    have h1 := b2_ne0.mp h
    refine B.run okX11_restore [] 60 ?_
    refine At.mV [vI 9, vI 0] [] B.1 (n_copies (wT m (ng b)) 9 0 (by decide) (by decide) (by decide)) kX11_copies ln_X11_33 F (dcV okX11_restore rfl) ?_
    refine B.run okX11_restore [] 60 ?_
    refine ⟨trivial, vk, ?_⟩
    refine rI ?_ (by rw [h1]; rfl)
    rw [if_pos h1]
    rfl
end NA
