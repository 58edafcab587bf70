/-! ===== the model: its row as a ship ===== -/
/-- the row f holds the ship T (entries below the counts) -/
def RS (T : SH) (f : FI) : Prop := (f 0 = gmn T ∧ f 1 = nI (gc T) ∧ f 2 = nI (gp T) ∧ f 3 = gnx T ∧ f 4 = gpw T ∧ f 5 = glm T ∧ f 6 = gsk T ∧ f 7 = nI (gsc T) ∧ f 8 = nI (glc T) ∧ (f 9).toInt64 = gpu T) ∧
  (∀ i, i < gc T → f (10 + 5 * i) = gar T i ∧ f (10 + 5 * i + 1) = gcp T i ∧ f (10 + 5 * i + 2) = gw T i ∧ f (10 + 5 * i + 3) = gl T i ∧ f (10 + 5 * i + 4) = gu T i) ∧
  (∀ k, k < gp T → f (50 + 3 * k) = gid T k ∧ f (50 + 3 * k + 1) = gwt T k ∧ f (50 + 3 * k + 2) = gpl T k) ∧
  (∀ k, k < gsc T → f (98 + 2 * k) = gmi T k ∧ f (98 + 2 * k + 1) = gsg T k) ∧ ∀ k, k < glc T → f (110 + k) = glg T k
theorem hs_wi {c : Nat} (hc : c ≤ 1000) (x : Int32) : wiB x 0 (nI c - 1) = hsB c x := by
  unfold hsB wiB
  congr 1
  have h1 : (nI c - 1).toInt = (c : Int) - 1 := by
    cases c with
    | zero => decide
    | succ d => rw [nI_pred, nI_toInt (by omega)]; omega
  have h2 : (nI c).toInt = (c : Int) := nI_toInt (by omega)
  rw [decide_eq_decide, Int32.le_iff_toInt_le, Int32.lt_iff_toInt_lt, h1, h2]
  omega
section NB
variable {m : MS} {T : SH}
theorem n_isTank (r : RS T (zA m)) (hT : WF T) (x : Int32) : Sp 1 0 0 mX11_isTank [vR 0 0, vI x] (mdl m) (PoI (b2 (hsB (gc T) x)) (mdl m)) := by
  refine Sp.of' false (fun h => by cases h) (by decide) rfl rfl (Nat.le_of_ble_eq_true rfl) fun γ σ B => ?_
  have F : Fit γ 0 0 0 0 0 := fiW B (by decide) (Nat.zero_le _) (Nat.zero_le _)
  have e1 : zA m 1 = nI (gc T) := r.1.2.1
  refine B.run okX11_isTank [] 60 ?_
  refine ⟨vk, ?_⟩
  refine At.mS [vI x, vI 0, vI (zA m 1 - 1)] [] B.1 (n_in x 0 (zA m 1 - 1)) kX11_in ln_X11_43 F (dcS okX11_isTank rfl) ?_
  rw [e1, hs_wi (by have := hT.1; omega)]
  refine B.run okX11_isTank [] 60 ?_
  exact ⟨b2_in _, rI rfl⟩
theorem n_piece (r : RS T (zA m)) (hT : WF T) (x : Int32) : Sp 1 0 0 mX11_piece [vR 0 0, vI x] (mdl m) (PoI (fnd (gid T) x (gp T)) (mdl m)) := by
  refine Sp.of' false (fun h => by cases h) (by decide) rfl rfl (Nat.le_of_ble_eq_true rfl) fun γ σ B => ?_
  have F : Fit γ 0 0 0 0 0 := fiW B (by decide) (Nat.zero_le _) (Nat.zero_le _)
  have e2 : zA m 2 = nI (gp T) := r.1.2.2.1
  have hp := hT.2.1
  have loop : ∀ (j i : Nat), i + j = gp T → (∀ k, k < i → eqB (gid T) x k = false) → At γ σ 0 0 2 [(0, vR 0 0), (1, vI x), (2, vI (nI i))] [] (mdl m) := by
    intro j
    induction j with
    | zero =>
      intro i hi hno
      have hi : i = gp T := by omega
      refine B.run okX11_piece [(2, [0, 1, 2])] 60 ?_
      refine ⟨vk, ?_⟩
      constructor
      · intro _
        exact rI (by unfold fnd; rw [← hi, fst_none hno, if_neg (Nat.lt_irrefl _)])
      · intro h
        replace h : ¬ zA m 2 ≤ nI i := h
        rw [e2] at h
        exact absurd (nI_le (by omega) (by omega)) h
    | succ j ih =>
      intro i hi hno
      refine B.run okX11_piece [(2, [0, 1, 2])] 60 ?_
      refine ⟨vk, ?_⟩
      constructor
      · intro h
        replace h : zA m 2 ≤ nI i := h
        rw [e2] at h
        exact absurd h (nI_ge (by omega) (by omega))
      · intro _
        refine At.mI [vI (nI i)] [] B.1 (n_idOf m i (by omega)) kX11_idOf ln_X11_47 F (dcV okX11_piece rfl) ?_
        rw [(r.2.2.1 i (by omega)).1]
        refine B.run okX11_piece [(2, [0, 1, 2])] 60 ?_
        constructor
        · intro h
          refine rI ?_
          unfold fnd
          rw [fst_some (decide_eq_true h) hno (show i < gp T by omega), if_pos (by omega)]
        · intro h
          show At γ σ 0 0 2 _ _ _
          rw [nI_1]
          refine ih (i + 1) (by omega) fun k hk => ?_
          rcases Nat.lt_or_ge k i with q | q
          · exact hno k q
          · have e : k = i := by omega
            rw [e]; exact decide_eq_false h
  refine B.run okX11_piece [(2, [0, 1, 2])] 60 ?_
  exact loop (gp T) 0 (by omega) (fun k hk => absurd hk (Nat.not_lt_zero _))
theorem n_cargo (r : RS T (zA m)) (hT : WF T) (x : Int32) : Sp 1 0 0 mX11_cargo [vR 0 0, vI x] (mdl m) (PoI (cgI (gwt T) (gpl T) x (gp T)) (mdl m)) := by
  refine Sp.of' false (fun h => by cases h) (by decide) rfl rfl (Nat.le_of_ble_eq_true rfl) fun γ σ B => ?_
  have F : Fit γ 0 0 0 0 0 := fiW B (by decide) (Nat.zero_le _) (Nat.zero_le _)
  have e2 : zA m 2 = nI (gp T) := r.1.2.2.1
  have hp := hT.2.1
  have loop : ∀ (j i : Nat), i + j = gp T → At γ σ 0 0 4 [(0, vR 0 0), (1, vI x), (2, vI (cgI (gwt T) (gpl T) x i)), (3, vI (nI i))] [] (mdl m) := by
    intro j
    induction j with
    | zero =>
      intro i hi
      have hi : i = gp T := by omega
      refine B.run okX11_cargo [(4, [0, 1, 2, 3])] 60 ?_
      refine ⟨vk, ?_⟩
      constructor
      · intro _
        exact rI (by rw [hi])
      · intro h
        replace h : ¬ zA m 2 ≤ nI i := h
        rw [e2] at h
        exact absurd (nI_le (by omega) (by omega)) h
    | succ j ih =>
      intro i hi
      refine B.run okX11_cargo [(4, [0, 1, 2, 3])] 60 ?_
      refine ⟨vk, ?_⟩
      constructor
      · intro h
        replace h : zA m 2 ≤ nI i := h
        rw [e2] at h
        exact absurd h (nI_ge (by omega) (by omega))
      · intro _
        refine At.mI [vI (nI i)] [vI (cgI (gwt T) (gpl T) x i)] B.1 (n_lies m i (by omega)) kX11_lies ln_X11_51 F (dcV okX11_cargo rfl) ?_
        rw [(r.2.2.1 i (by omega)).2.2]
        have z := ih (i + 1) (by omega)
        rw [← nI_1] at z
        unfold cgI at z
        refine B.run okX11_cargo [(4, [0, 1, 2, 3])] 60 ?_
        constructor
        · intro h
          rw [if_pos h] at z
          refine B.run okX11_cargo [(4, [0, 1, 2, 3])] 60 ?_
          refine At.mI [vI (nI i)] [vI (cgI (gwt T) (gpl T) x i)] B.1 (n_heavy m i (by omega)) kX11_heavy ln_X11_54 F (dcV okX11_cargo rfl) ?_
          rw [(r.2.2.1 i (by omega)).2.1]
          refine B.run okX11_cargo [(4, [0, 1, 2, 3])] 60 ?_
          exact z
        · intro h
          rw [if_neg h] at z
          rw [← Int32.add_zero (cgI (gwt T) (gpl T) x i)] at z
          exact z
  refine B.run okX11_cargo [(4, [0, 1, 2, 3])] 60 ?_
  exact loop (gp T) 0 (by omega)
theorem n_laden (r : RS T (zA m)) (hT : WF T) (i : Nat) (hi : i < gc T) : Sp 2 0 0 mX11_laden [vR 0 0, vI (nI i)] (mdl m) (PoI (ldI T i) (mdl m)) := by
  refine Sp.of' false (fun h => by cases h) (by decide) rfl rfl (Nat.le_of_ble_eq_true rfl) fun γ σ B => ?_
  have F : Fit γ 0 0 0 0 0 := fiW B (by decide) (Nat.zero_le _) (Nat.zero_le _)
  have F1 : Fit γ 0 0 1 0 0 := fiW B (by decide) (Nat.zero_le _) (Nat.zero_le _)
  have hc := hT.1
  refine B.run okX11_laden [] 60 ?_
  refine At.mI [vI (nI i), vI 2] [] B.1 (n_c m i 2 (by omega)) kX11_c ln_X11_57 F (dcV okX11_laden rfl) ?_
  rw [(r.2.1 i hi).2.2.1]
  refine B.run okX11_laden [] 60 ?_
  refine At.mI [vI (nI i)] [vI (gw T i)] B.1 (n_cargo r hT (nI i)) kX11_cargo ln_X11_61 F1 (dcV okX11_laden rfl) ?_
  refine B.run okX11_laden [] 60 ?_
  exact rI rfl
theorem n_total (r : RS T (zA m)) (hT : WF T) : Sp 3 0 0 mX11_total [vR 0 0] (mdl m) (PoI (twI T) (mdl m)) := by
  refine Sp.of' false (fun h => by cases h) (by decide) rfl rfl (Nat.le_of_ble_eq_true rfl) fun γ σ B => ?_
  have F : Fit γ 0 0 0 0 0 := fiW B (by decide) (Nat.zero_le _) (Nat.zero_le _)
  have F2 : Fit γ 0 0 2 0 0 := fiW B (by decide) (Nat.zero_le _) (Nat.zero_le _)
  have e1 : zA m 1 = nI (gc T) := r.1.2.1
  have hc := hT.1
  have loop : ∀ (j i : Nat), i + j = gc T → At γ σ 0 0 4 [(0, vR 0 0), (1, vI (sumI (ldI T) i)), (2, vI (nI i))] [] (mdl m) := by
    intro j
    induction j with
    | zero =>
      intro i hi
      have hi : i = gc T := by omega
      refine B.run okX11_total [(4, [0, 1, 2])] 60 ?_
      refine ⟨vk, ?_⟩
      constructor
      · intro _
        exact rI (by unfold twI; rw [hi])
      · intro h
        replace h : ¬ zA m 1 ≤ nI i := h
        rw [e1] at h
        exact absurd (nI_le (by omega) (by omega)) h
    | succ j ih =>
      intro i hi
      refine B.run okX11_total [(4, [0, 1, 2])] 60 ?_
      refine ⟨vk, ?_⟩
      constructor
      · intro h
        replace h : zA m 1 ≤ nI i := h
        rw [e1] at h
        exact absurd h (nI_ge (by omega) (by omega))
      · intro _
        refine At.mI [vI (nI i)] [vI (sumI (ldI T) i)] B.1 (n_laden r hT i (by omega)) kX11_laden ln_X11_64 F2 (dcV okX11_total rfl) ?_
        refine B.run okX11_total [(4, [0, 1, 2])] 60 ?_
        have z := ih (i + 1) (by omega)
        rw [← nI_1] at z
        exact z
  refine B.run okX11_total [(4, [0, 1, 2])] 60 ?_
  exact loop (gc T) 0 (by omega)
theorem n_turning (r : RS T (zA m)) (hT : WF T) : Sp 3 0 0 mX11_turning [vR 0 0] (mdl m) (PoI (tmI T) (mdl m)) := by
  refine Sp.of' false (fun h => by cases h) (by decide) rfl rfl (Nat.le_of_ble_eq_true rfl) fun γ σ B => ?_
  have F : Fit γ 0 0 0 0 0 := fiW B (by decide) (Nat.zero_le _) (Nat.zero_le _)
  have F2 : Fit γ 0 0 2 0 0 := fiW B (by decide) (Nat.zero_le _) (Nat.zero_le _)
  have e1 : zA m 1 = nI (gc T) := r.1.2.1
  have hc := hT.1
  have loop : ∀ (j i : Nat), i + j = gc T → At γ σ 0 0 4 [(0, vR 0 0), (1, vI (sumI (fun i => ldI T i * gar T i) i)), (2, vI (nI i))] [] (mdl m) := by
    intro j
    induction j with
    | zero =>
      intro i hi
      have hi : i = gc T := by omega
      refine B.run okX11_turning [(4, [0, 1, 2])] 60 ?_
      refine ⟨vk, ?_⟩
      constructor
      · intro _
        exact rI (by unfold tmI; rw [hi])
      · intro h
        replace h : ¬ zA m 1 ≤ nI i := h
        rw [e1] at h
        exact absurd (nI_le (by omega) (by omega)) h
    | succ j ih =>
      intro i hi
      refine B.run okX11_turning [(4, [0, 1, 2])] 60 ?_
      refine ⟨vk, ?_⟩
      constructor
      · intro h
        replace h : zA m 1 ≤ nI i := h
        rw [e1] at h
        exact absurd h (nI_ge (by omega) (by omega))
      · intro _
        refine At.mI [vI (nI i)] [vI (sumI (fun i => ldI T i * gar T i) i)] B.1 (n_laden r hT i (by omega)) kX11_laden ln_X11_64 F2 (dcV okX11_turning rfl) ?_
        refine B.run okX11_turning [(4, [0, 1, 2])] 60 ?_
        refine At.mI [vI (nI i), vI 0] [vI (ldI T i), vI (sumI (fun i => ldI T i * gar T i) i)] B.1 (n_c m i 0 (by omega)) kX11_c ln_X11_57 F (dcV okX11_turning rfl) ?_
        rw [show zA m (10 + 5 * i + 0) = gar T i from (r.2.1 i (by omega)).1]
        refine B.run okX11_turning [(4, [0, 1, 2])] 60 ?_
        have z := ih (i + 1) (by omega)
        rw [← nI_1] at z
        exact z
  refine B.run okX11_turning [(4, [0, 1, 2])] 60 ?_
  exact loop (gc T) 0 (by omega)
theorem n_isPumped (r : RS T (zA m)) (hT : WF T) (i : Nat) (hi : i < gc T) : Sp 1 0 0 mX11_isPumped [vR 0 0, vI (nI i)] (mdl m) (PoI (b2 (cpB (gu T) (gw T) i)) (mdl m)) := by
  refine Sp.of' false (fun h => by cases h) (by decide) rfl rfl (Nat.le_of_ble_eq_true rfl) fun γ σ B => ?_
  have F : Fit γ 0 0 0 0 0 := fiW B (by decide) (Nat.zero_le _) (Nat.zero_le _)
  have hc := hT.1
  refine B.run okX11_isPumped [] 60 ?_
  refine At.mI [vI (nI i), vI 4] [] B.1 (n_c m i 4 (by omega)) kX11_c ln_X11_57 F (dcV okX11_isPumped rfl) ?_
  rw [(r.2.1 i hi).2.2.2.2]
  refine B.run okX11_isPumped [] 60 ?_
  constructor
  · intro h
    exact rFa (by unfold cpB; rw [decide_eq_false (Int32.not_lt.mpr h)]; rfl)
  · intro h
    refine B.run okX11_isPumped [] 60 ?_
    refine At.mI [vI (nI i), vI 2] [] B.1 (n_c m i 2 (by omega)) kX11_c ln_X11_57 F (dcV okX11_isPumped rfl) ?_
    rw [(r.2.1 i hi).2.2.1]
    refine B.run okX11_isPumped [] 60 ?_
    constructor
    · intro h2
      exact rFa (by unfold cpB; rw [decide_eq_false (Int32.not_lt.mpr h2), Bool.and_false])
    · intro h2
      exact rT (by unfold cpB; rw [decide_eq_true (Int32.not_le.mp h), decide_eq_true (Int32.not_le.mp h2)]; rfl)
theorem n_ahead (r : RS T (zA m)) (hT : WF T) (i : Nat) (hi : i < gc T) : Sp 2 0 0 mX11_ahead [vR 0 0, vI (nI i)] (mdl m) (PoI (nI (rkN (gu T) (gw T) i (gc T))) (mdl m)) := by
  refine Sp.of' false (fun h => by cases h) (by decide) rfl rfl (Nat.le_of_ble_eq_true rfl) fun γ σ B => ?_
  have F : Fit γ 0 0 0 0 0 := fiW B (by decide) (Nat.zero_le _) (Nat.zero_le _)
  have F1 : Fit γ 0 0 1 0 0 := fiW B (by decide) (Nat.zero_le _) (Nat.zero_le _)
  have e1 : zA m 1 = nI (gc T) := r.1.2.1
  have hc := hT.1
  have loop : ∀ (j q : Nat), q + j = gc T → At γ σ 0 0 4 [(0, vR 0 0), (1, vI (nI i)), (2, vI (nI (rkN (gu T) (gw T) i q))), (3, vI (nI q))] [] (mdl m) := by
    intro j
    induction j with
    | zero =>
      intro q hq
      have hq : q = gc T := by omega
      refine B.run okX11_ahead [(4, [0, 1, 2, 3])] 60 ?_
      refine ⟨vk, ?_⟩
      constructor
      · intro _
        exact rI (by rw [hq])
      · intro h
        replace h : ¬ zA m 1 ≤ nI q := h
        rw [e1] at h
        exact absurd (nI_le (by omega) (by omega)) h
    | succ j ih =>
      intro q hq
      have z := ih (q + 1) (by omega)
      rw [← nI_1] at z
      have yes : (cpB (gu T) (gw T) q && pbB (gw T) q i) = true → At γ σ 0 0 4 [(0, vR 0 0), (1, vI (nI i)), (2, vI (nI (rkN (gu T) (gw T) i q) + 1)), (3, vI (nI q + 1))] [] (mdl m) := fun hb => by
        have e : rkN (gu T) (gw T) i (q + 1) = rkN (gu T) (gw T) i q + 1 := by
          show ctB _ q + _ = _
          rw [if_pos hb]; rfl
        rw [e, ← nI_1] at z
        exact z
      have no : (cpB (gu T) (gw T) q && pbB (gw T) q i) = false → At γ σ 0 0 4 [(0, vR 0 0), (1, vI (nI i)), (2, vI (nI (rkN (gu T) (gw T) i q) + 0)), (3, vI (nI q + 1))] [] (mdl m) := fun hb => by
        have e : rkN (gu T) (gw T) i (q + 1) = rkN (gu T) (gw T) i q := by
          show ctB _ q + _ = _
          rw [if_neg (show ¬ (cpB (gu T) (gw T) q && pbB (gw T) q i) = true from by rw [hb]; decide)]; rfl
        rw [e] at z
        rw [Int32.add_zero]
        exact z
      refine B.run okX11_ahead [(4, [0, 1, 2, 3])] 60 ?_
      refine ⟨vk, ?_⟩
      constructor
      · intro h
        replace h : zA m 1 ≤ nI q := h
        rw [e1] at h
        exact absurd h (nI_ge (by omega) (by omega))
      · intro _
        refine At.mI [vI (nI q)] [vI (nI (rkN (gu T) (gw T) i q))] B.1 (n_isPumped r hT q (by omega)) kX11_isPumped ln_X11_67 F1 (dcV okX11_ahead rfl) ?_
        refine B.run okX11_ahead [(4, [0, 1, 2, 3])] 60 ?_
        constructor
        · intro h
          have hb : cpB (gu T) (gw T) q = false := b2_eq0.mp h
          exact no (by rw [hb]; rfl)
        · intro h
          have hb : cpB (gu T) (gw T) q = true := b2_ne0.mp h
          rw [hb, Bool.true_and] at yes no
          refine B.run okX11_ahead [(4, [0, 1, 2, 3])] 60 ?_
          refine At.mI [vI (nI q), vI 2] [vI (nI (rkN (gu T) (gw T) i q))] B.1 (n_c m q 2 (by omega)) kX11_c ln_X11_57 F (dcV okX11_ahead rfl) ?_
          rw [(r.2.1 q (by omega)).2.2.1]
          refine B.run okX11_ahead [(4, [0, 1, 2, 3])] 60 ?_
          refine At.mI [vI (nI i), vI 2] [vI (gw T q), vI (nI (rkN (gu T) (gw T) i q))] B.1 (n_c m i 2 (by omega)) kX11_c ln_X11_57 F (dcV okX11_ahead rfl) ?_
          rw [(r.2.1 i (by omega)).2.2.1]
          refine B.run okX11_ahead [(4, [0, 1, 2, 3])] 60 ?_
          constructor
          · intro h2
            exact yes (by unfold pbB; rw [decide_eq_true h2]; rfl)
          · intro h2
            refine B.run okX11_ahead [(4, [0, 1, 2, 3])] 60 ?_
            refine At.mI [vI (nI q), vI 2] [vI (nI (rkN (gu T) (gw T) i q))] B.1 (n_c m q 2 (by omega)) kX11_c ln_X11_57 F (dcV okX11_ahead rfl) ?_
            rw [(r.2.1 q (by omega)).2.2.1]
            refine B.run okX11_ahead [(4, [0, 1, 2, 3])] 60 ?_
            refine At.mI [vI (nI i), vI 2] [vI (gw T q), vI (nI (rkN (gu T) (gw T) i q))] B.1 (n_c m i 2 (by omega)) kX11_c ln_X11_57 F (dcV okX11_ahead rfl) ?_
            rw [(r.2.1 i (by omega)).2.2.1]
            refine B.run okX11_ahead [(4, [0, 1, 2, 3])] 60 ?_
            constructor
            · intro h3
              constructor
              · intro h4
                refine no ?_
                unfold pbB
                rw [decide_eq_false h2, decide_eq_false (show ¬ q < i from fun x => absurd h4 (nI_ge x (by omega))), Bool.and_false]; rfl
              · intro h4
                refine yes ?_
                unfold pbB
                rw [decide_eq_true h3, decide_eq_true (show q < i from Nat.not_le.mp fun x => h4 (nI_le x (by omega))), Bool.or_comm]; rfl
            · intro h3
              refine no ?_
              unfold pbB
              rw [decide_eq_false h2, decide_eq_false h3]; rfl
  refine B.run okX11_ahead [(4, [0, 1, 2, 3])] 60 ?_
  exact loop (gc T) 0 (by omega)
theorem n_runs (r : RS T (zA m)) (hT : WF T) (i : Nat) (hi : i < gc T) : Sp 3 0 0 mX11_runs [vR 0 0, vI (nI i)] (mdl m) (PoI (b2 (rnB (gu T) (gw T) (gc T) (gpw T) i)) (mdl m)) := by
  refine Sp.of' false (fun h => by cases h) (by decide) rfl rfl (Nat.le_of_ble_eq_true rfl) fun γ σ B => ?_
  have F1 : Fit γ 0 0 1 0 0 := fiW B (by decide) (Nat.zero_le _) (Nat.zero_le _)
  have F2 : Fit γ 0 0 2 0 0 := fiW B (by decide) (Nat.zero_le _) (Nat.zero_le _)
  have e4 : zA m 4 = gpw T := r.1.2.2.2.2.1
  refine B.run okX11_runs [] 60 ?_
  refine At.mI [vI (nI i)] [] B.1 (n_isPumped r hT i hi) kX11_isPumped ln_X11_67 F1 (dcV okX11_runs rfl) ?_
  refine B.run okX11_runs [] 60 ?_
  constructor
  · intro h
    exact rFa (by unfold rnB; rw [b2_eq0.mp h]; rfl)
  · intro h
    refine B.run okX11_runs [] 60 ?_
    refine At.mI [vI (nI i)] [] B.1 (n_ahead r hT i hi) kX11_ahead ln_X11_71 F2 (dcV okX11_runs rfl) ?_
    refine B.run okX11_runs [] 60 ?_
    refine ⟨vk, ?_⟩
    constructor
    · intro h2
      replace h2 : zA m 4 ≤ nI (rkN (gu T) (gw T) i (gc T)) := h2
      rw [e4] at h2
      exact rFa (by unfold rnB; rw [decide_eq_false (Int32.not_lt.mpr h2), Bool.and_false])
    · intro h2
      replace h2 : ¬ zA m 4 ≤ nI (rkN (gu T) (gw T) i (gc T)) := h2
      rw [e4] at h2
      exact rT (by unfold rnB; rw [b2_ne0.mp h, decide_eq_true (Int32.not_le.mp h2)]; rfl)
theorem n_storm (r : RS T (zA m)) (hT : WF T) (x : Int32) : Sp 0 0 0 mX11_storm [vR 0 0, vI x] (mdl m) (PoI (fnd (gmi T) x (gsc T)) (mdl m)) := by
  refine Sp.of' false (fun h => by cases h) (by decide) rfl rfl (Nat.le_of_ble_eq_true rfl) fun γ σ B => ?_
  have e7 : zA m 7 = nI (gsc T) := r.1.2.2.2.2.2.2.2.1
  have hs := hT.2.2.1
  have loop : ∀ (j i : Nat), i + j = gsc T → (∀ k, k < i → eqB (gmi T) x k = false) → At γ σ 0 0 2 [(0, vR 0 0), (1, vI x), (2, vI (nI i))] [] (mdl m) := by
    intro j
    induction j with
    | zero =>
      intro i hi hno
      have hi : i = gsc T := by omega
      refine B.run okX11_storm [(2, [0, 1, 2])] 60 ?_
      refine ⟨vk, ?_⟩
      constructor
      · intro _
        exact rI (by unfold fnd; rw [← hi, fst_none hno, if_neg (Nat.lt_irrefl _)])
      · intro h
        replace h : ¬ zA m 7 ≤ nI i := h
        rw [e7] at h
        exact absurd (nI_le (by omega) (by omega)) h
    | succ j ih =>
      intro i hi hno
      refine B.run okX11_storm [(2, [0, 1, 2])] 60 ?_
      refine ⟨vk, ?_⟩
      constructor
      · intro h
        replace h : zA m 7 ≤ nI i := h
        rw [e7] at h
        exact absurd h (nI_ge (by omega) (by omega))
      · intro _
        have ei : (98 : Int32) + 2 * nI i = nI (98 + 2 * i) := ix2 98 i
        refine ⟨by rw [ei]; exact vp_in_nI (by omega) (by decide), ?_⟩
        rw [ei, nI_clamp (by omega), (r.2.2.2.1 i (by omega)).1]
        constructor
        · intro h
          refine rI ?_
          unfold fnd
          rw [fst_some (decide_eq_true h) hno (show i < gsc T by omega), if_pos (by omega)]
        · intro h
          show At γ σ 0 0 2 _ _ _
          rw [nI_1]
          refine ih (i + 1) (by omega) fun k hk => ?_
          rcases Nat.lt_or_ge k i with q | q
          · exact hno k q
          · have e : k = i := by omega
            rw [e]; exact decide_eq_false h
  refine B.run okX11_storm [(2, [0, 1, 2])] 60 ?_
  exact loop (gsc T) 0 (by omega) (fun k hk => absurd hk (Nat.not_lt_zero _))
end NB
