/-! ===== the model: further changes ===== -/
theorem div8 : ∀ n, n < 64 → nI n / 8 = nI (n / 8) := by decide +kernel
theorem mod8 : ∀ n, n < 64 → nI n - nI n / 8 * 8 = nI (n % 8) := by decide +kernel
section NC2
variable {m : MS} {T : SH}
theorem n_isAmount (x : Int32) : Sp 1 0 0 mX11_isAmount [vI x] [] (PoI (b2 (wiB x 1 200)) []) := by
  refine Sp.of' false (fun h => by cases h) (by decide) rfl rfl (Nat.le_of_ble_eq_true rfl) fun γ σ B => ?_
  have F : Fit γ 0 0 0 0 0 := fiW B (by decide) (Nat.zero_le _) (Nat.zero_le _)
  refine B.run okX11_isAmount [] 60 ?_
  refine At.mS [vI x, vI 1, vI 200] [] B.1 (n_in x 1 200) kX11_in ln_X11_43 F (dcS okX11_isAmount rfl) ?_
  refine B.run okX11_isAmount [] 60 ?_
  exact ⟨b2_in _, rI rfl⟩
theorem n_unloads (r : RS T (zA m)) (hT : WF T) (x : Int32) : Sp 2 0 0 mX11_unloads [vR 0 0, vI x] (mdl m) (PoE (some (vI (nI (fUnl T x)))) (fun m' => CQ' (fUnl T x) m m' (eRem T x) (gwt T (pq T x)))) := by
  refine Sp.of' false (fun h => by cases h) (by decide) rfl rfl (Nat.le_of_ble_eq_true rfl) fun γ σ B => ?_
  have F : Fit γ 0 0 0 0 0 := fiW B (by decide) (Nat.zero_le _) (Nat.zero_le _)
  have F1 : Fit γ 0 0 1 0 0 := fiW B (by decide) (Nat.zero_le _) (Nat.zero_le _)
  have e2 : zA m 2 = nI (gp T) := r.1.2.2.1
  have hp := hT.2.1
  let PP : Nat → MS → Prop := fun q m' => CQ' q m m' (eRem T x) (gwt T (pq T x))
  refine B.run okX11_unloads [] 60 ?_
  refine At.mI [vI x] [] B.1 (n_piece r hT x) kX11_piece ln_X11_120 F1 (dcV okX11_unloads rfl) ?_
  refine B.run okX11_unloads [] 60 ?_
  constructor
  · intro h
    obtain ⟨hq, eq⟩ := fnd_some (by omega) (Int32.not_lt.mpr h)
    rw [eq]
    have hqq : pq T x = fst (eqB (gid T) x) (gp T) := rfl
    have ef0 : fUnl T x = 0 := by unfold fUnl; rw [if_pos hq]
    generalize fst (eqB (gid T) x) (gp T) = q at hq hqq ⊢
    have hq' : q < gp T := hq
    have R1 := r.rem hT hq'
    obtain ⟨l, hl⟩ : ∃ l, gp T = l + 1 := ⟨gp T - 1, by omega⟩
    have hlast : zA m 2 - 1 = nI l := by rw [e2, hl, nI_pred]
    rw [hl, Nat.add_sub_cancel] at R1
    have fin : fUnl T x = 0 := ef0
    have l2 : ∀ (f : FI), f = sh3 (zA m) (50 + 3 * q) (50 + 3 * l) → At γ σ 0 0 71 [(0, vR 0 0), (1, vI x), (2, vI (nI q)), (3, vI (nI l))] [] (mdl (wR (wA m f) (gwt T q))) := by
      intro f hf
      subst hf
      have ez : ∀ k : Nat, (50 : Int32) + 3 * nI l + nI k = nI (50 + 3 * l + k) := fun k => by rw [show (50 : Int32) + 3 * nI l = nI (50 + 3 * l) from ix3 50 l, nI_add]
      have st : ∀ (g : FI) (k : Nat), k < 3 → At γ σ 0 0 74 [(0, vR 0 0), (1, vI x), (2, vI (nI q)), (3, vI (nI l)), (4, vI (nI (k + 1)))] [] (mdl (wR (wA m (upd g (50 + 3 * l + k) 0)) (gwt T q))) → At γ σ 0 0 74 [(0, vR 0 0), (1, vI x), (2, vI (nI q)), (3, vI (nI l)), (4, vI (nI k))] [] (mdl (wR (wA m g) (gwt T q))) := by
        intro g k hk z
        refine B.run okX11_unloads [(74, [0, 1, 2, 3, 4])] 60 ?_
        constructor
        · intro h
          exact absurd h (nI_ge (a := k) (b := 3) hk (by decide))
        · intro _
          refine ⟨by rw [ez]; exact vp_in_nI (by omega) (by decide), ?_⟩
          rw [ez, nI_clamp (by omega)]
          rw [← nI_1] at z
          exact z
      refine B.run okX11_unloads [(74, [0, 1, 2, 3, 4])] 60 ?_
      refine st _ 0 (by decide) (st _ 1 (by decide) (st _ 2 (by decide) ?_))
      refine B.run okX11_unloads [] 60 ?_
      constructor
      · intro _
        refine ⟨vk, ?_⟩
        refine rQ (q := 0) (P := PP) (m' := wR (wA m (fRemR (zA m) q l)) (gwt T q)) fin.symm rfl (CHR.q ⟨?_, fun j hj => ?_, ?_⟩) rfl
        · show RS (remT T (pq T x)) _
          rw [hqq]; exact R1
        · show fRemR (zA m) q l j = _
          rw [fRemR, upd_ne _ _ (by omega), upd_ne _ _ (by omega), upd_ne _ _ (by omega), upd_ne _ _ (by omega)]
          unfold sh3
          rw [if_neg (by omega)]
        · rw [hqq]
      · intro h
        exact absurd (show nI 3 ≤ 3 by decide) h
    have l1 : ∀ (j i : Nat), i + j = 3 * l → 3 * q ≤ i → At γ σ 0 0 35 [(0, vR 0 0), (1, vI x), (2, vI (nI q)), (3, vI (nI l)), (4, vI (nI i))] [] (mdl (wR (wA m (sh3 (zA m) (50 + 3 * q) (50 + i))) (gwt T q))) := by
      intro j
      have e3 : (3 : Int32) * nI l = nI (3 * l) := by rw [show (3 : Int32) = nI 3 from rfl, nI_mul]
      induction j with
      | zero =>
        intro i hi hq2
        have hi : i = 3 * l := by omega
        subst hi
        refine B.run okX11_unloads [(71, [0, 1, 2, 3])] 60 ?_
        constructor
        · intro _
          exact l2 _ rfl
        · intro h
          have h : ¬ (3 : Int32) * nI l ≤ nI (3 * l) := h
          rw [e3] at h
          exact absurd (nI_le (Nat.le_refl _) (by omega)) h
      | succ j ih =>
        intro i hi hq2
        refine B.run okX11_unloads [(35, [0, 1, 2, 3, 4])] 60 ?_
        have E1 : (50 : Int32) + nI i = nI (50 + i) := nI_add 50 i
        have E2 : (50 : Int32) + nI i + 3 = nI (50 + i + 3) := by rw [E1]; exact nI_add (50 + i) 3
        constructor
        · intro h
          have h : (3 : Int32) * nI l ≤ nI i := h
          rw [e3] at h
          exact absurd h (nI_ge (by omega) (by omega))
        · intro _
          refine ⟨by rw [E2]; exact vp_in_nI (by omega) (by decide), by rw [E1]; exact vp_in_nI (by omega) (by decide), ?_⟩
          rw [E2, E1, nI_clamp (by omega), nI_clamp (by omega)]
          have z := ih (i + 1) (by omega) (by omega)
          rw [← nI_1, show 50 + (i + 1) = 50 + i + 1 by omega, ← sh3_put (zA m) (50 + 3 * q) (50 + i) (by omega)] at z
          exact z
    refine ⟨vk, ?_⟩
    change At γ σ 0 0 24 [(0, vR 0 0), (1, vI x), (2, vI (nI q)), (3, vI (zA m 2 - 1))] [vI (nI q), vR 0 0, vR 0 0] (mdl m)
    rw [hlast]
    refine At.mI [vI (nI q)] [vR 0 0] B.1 (n_heavy m q (by omega)) kX11_heavy ln_X11_54 F (dcV okX11_unloads rfl) ?_
    rw [(r.2.2.1 q hq').2.1]
    refine B.run okX11_unloads [(35, [0, 1, 2, 3, 4])] 60 ?_
    have e3q : (3 : Int32) * nI q = nI (3 * q) := by rw [show (3 : Int32) = nI 3 from rfl, nI_mul]
    refine ⟨trivial, ?_⟩
    have z := l1 (3 * l - 3 * q) (3 * q) (by omega) (Nat.le_refl _)
    have e0 : sh3 (zA m) (50 + 3 * q) (50 + 3 * q) = zA m := by
      funext j
      unfold sh3
      rw [if_neg (by omega)]
    rw [e0, ← e3q] at z
    exact z
  · intro h
    obtain ⟨hq, eq⟩ := fnd_none (by omega) (Int32.not_le.mp h)
    exact rQ (q := 4) (P := PP) (by unfold fUnl; rw [if_neg hq]) rfl (CQ'.no (by decide))
theorem n_shifts (r : RS T (zA m)) (hT : WF T) (x y : Int32) : Sp 2 0 0 mX11_shifts [vR 0 0, vI x, vI y] (mdl m) (PoE (some (vI (nI (fShf T x y)))) (fun m' => CQ' (fShf T x y) m m' (eCar T x y) (gpl T (pq T x)))) := by
  refine Sp.of' false (fun h => by cases h) (by decide) rfl rfl (Nat.le_of_ble_eq_true rfl) fun γ σ B => ?_
  have F : Fit γ 0 0 0 0 0 := fiW B (by decide) (Nat.zero_le _) (Nat.zero_le _)
  have F1 : Fit γ 0 0 1 0 0 := fiW B (by decide) (Nat.zero_le _) (Nat.zero_le _)
  have hp := hT.2.1
  let PP : Nat → MS → Prop := fun q m' => CQ' q m m' (eCar T x y) (gpl T (pq T x))
  refine B.run okX11_shifts [] 60 ?_
  refine At.mI [vI x] [] B.1 (n_piece r hT x) kX11_piece ln_X11_120 F1 (dcV okX11_shifts rfl) ?_
  refine B.run okX11_shifts [] 60 ?_
  constructor
  · intro h
    obtain ⟨hq, eq⟩ := fnd_some (by omega) (Int32.not_lt.mpr h)
    rw [eq]
    have hqq : pq T x = fst (eqB (gid T) x) (gp T) := rfl
    have ef0 : fShf T x y = (if hsB (gc T) y = true then (if gpl T (fst (eqB (gid T) x) (gp T)) = y then 3 else 0) else 1) := by unfold fShf; rw [if_pos hq]
    generalize fst (eqB (gid T) x) (gp T) = q at hq hqq ef0 ⊢
    have hq' : q < gp T := hq
    refine B.run okX11_shifts [] 60 ?_
    refine At.mI [vI y] [] B.1 (n_isTank r hT y) kX11_isTank ln_X11_114 F1 (dcV okX11_shifts rfl) ?_
    refine B.run okX11_shifts [] 60 ?_
    constructor
    · intro h2
      exact rQ (q := 1) (P := PP) (by rw [ef0, if_neg (by rw [b2_eq0.mp h2]; decide)]) rfl (CQ'.no (by decide))
    · intro h2
      have h3 := b2_ne0.mp h2
      refine B.run okX11_shifts [] 60 ?_
      refine At.mI [vI (nI q)] [] B.1 (n_lies m q (by omega)) kX11_lies ln_X11_51 F (dcV okX11_shifts rfl) ?_
      rw [(r.2.2.1 _ hq').2.2]
      refine B.run okX11_shifts [] 60 ?_
      constructor
      · intro h4
        exact rQ (q := 3) (P := PP) (by rw [ef0, if_pos h3, if_pos h4]) rfl (CQ'.no (by decide))
      · intro h4
        refine B.run okX11_shifts [] 60 ?_
        refine At.mI [vI (nI q)] [vR 0 0] B.1 (n_lies m q (by omega)) kX11_lies ln_X11_51 F (dcV okX11_shifts rfl) ?_
        rw [(r.2.2.1 _ hq').2.2]
        refine B.run okX11_shifts [] 60 ?_
        have E : (50 : Int32) + 3 * nI q + 2 = nI (50 + 3 * q + 2) := by
          rw [show (50 : Int32) + 3 * nI q = nI (50 + 3 * q) from ix3 50 _]
          exact nI_add _ 2
        refine ⟨trivial, by rw [E]; exact vp_in_nI (by omega) (by decide), ?_⟩
        rw [E, nI_clamp (by omega)]
        exact rQ (q := 0) (P := PP) (m' := wR (wA m (upd (zA m) (50 + 3 * q + 2) y)) (gpl T q)) (by rw [ef0, if_pos h3, if_neg h4]) rfl (by
          show CQ' 0 m _ (carT T (pq T x) y) (gpl T (pq T x))
          rw [hqq]
          exact CHR.q ⟨r.car hT hq' y, fun j hj => upd_ne _ _ (by omega), rfl⟩) rfl
  · intro h
    obtain ⟨hq, eq⟩ := fnd_none (by omega) (Int32.not_le.mp h)
    exact rQ (q := 4) (P := PP) (by unfold fShf; rw [if_neg hq]) rfl (CQ'.no (by decide))
theorem n_ratesL (r : RS T (zA m)) (hT : WF T) (x y : Int32) : Sp 2 0 0 mX11_rates [vR 0 0, vI x, vI 3, vI y] (mdl m) (PoE (some (vI (nI (fRat T x y)))) (fun m' => CQ' (fRat T x y) m m' (eLk T x y) (gl T x.toNatClampNeg))) := by
  refine Sp.of' false (fun h => by cases h) (by decide) rfl rfl (Nat.le_of_ble_eq_true rfl) fun γ σ B => ?_
  have F : Fit γ 0 0 0 0 0 := fiW B (by decide) (Nat.zero_le _) (Nat.zero_le _)
  have F1 : Fit γ 0 0 1 0 0 := fiW B (by decide) (Nat.zero_le _) (Nat.zero_le _)
  have hc := hT.1
  let PP : Nat → MS → Prop := fun q m' => CQ' q m m' (eLk T x y) (gl T x.toNatClampNeg)
  refine B.run okX11_rates [] 60 ?_
  refine At.mI [vI x] [] B.1 (n_isTank r hT x) kX11_isTank ln_X11_114 F1 (dcV okX11_rates rfl) ?_
  refine B.run okX11_rates [] 60 ?_
  constructor
  · intro h
    exact rQ (q := 1) (P := PP) (by unfold fRat; rw [if_neg (by rw [b2_eq0.mp h]; decide)]) rfl (CQ'.no (by decide))
  · intro h
    have h1 := b2_ne0.mp h
    refine B.run okX11_rates [] 60 ?_
    refine At.mS [vI y, vI 0, vI 20] [] B.1 (n_in y 0 20) kX11_in ln_X11_43 F (dcS okX11_rates rfl) ?_
    refine B.run okX11_rates [] 60 ?_
    constructor
    · intro h2
      exact rQ (q := 2) (P := PP) (by unfold fRat; rw [if_pos h1, if_neg (by rw [b2_eq0.mp h2]; decide)]) rfl (CQ'.no (by decide))
    · intro h2
      have h3 := b2_ne0.mp h2
      have ef : fRat T x y = 0 := by unfold fRat; rw [if_pos h1, if_pos h3]
      obtain ⟨i, hi, rfl⟩ := hs_of (by omega) h1
      have eb := r.2.1 i hi
      refine B.run okX11_rates [] 60 ?_
      refine At.mI [vI (nI i), vI 3] [vR 0 0] B.1 (n_c m i 3 (by omega)) kX11_c ln_X11_57 F (dcV okX11_rates rfl) ?_
      rw [show zA m (10 + 5 * i + 3) = gl T i from eb.2.2.2.1]
      refine B.run okX11_rates [] 60 ?_
      refine ⟨trivial, ?_⟩
      refine At.mV [vI (nI i), vI 3, vI y] [] B.1 (n_set (wR m (gl T i)) i 3 y (by omega)) kX11_set ln_X11_77 F (dcV okX11_rates rfl) ?_
      refine B.run okX11_rates [] 60 ?_
      refine rQ (q := 0) (P := PP) (m' := wR (wA m (upd (zA m) (10 + 5 * i + 3) y)) (gl T i)) ef.symm rfl ?_ rfl
      have ec : (nI i).toNatClampNeg = i := nI_clamp (by omega)
      show CQ' 0 m _ (eLk T (nI i) y) (gl T (nI i).toNatClampNeg)
      unfold eLk
      rw [ec]
      exact CHR.q ⟨r.setL hT (by omega) y, fun j hj => upd_ne _ _ (by omega), rfl⟩
theorem n_ratesG (r : RS T (zA m)) (hT : WF T) (x y : Int32) : Sp 2 0 0 mX11_rates [vR 0 0, vI x, vI 4, vI y] (mdl m) (PoE (some (vI (nI (fRat T x y)))) (fun m' => CQ' (fRat T x y) m m' (eGu T x y) (gu T x.toNatClampNeg))) := by
  refine Sp.of' false (fun h => by cases h) (by decide) rfl rfl (Nat.le_of_ble_eq_true rfl) fun γ σ B => ?_
  have F : Fit γ 0 0 0 0 0 := fiW B (by decide) (Nat.zero_le _) (Nat.zero_le _)
  have F1 : Fit γ 0 0 1 0 0 := fiW B (by decide) (Nat.zero_le _) (Nat.zero_le _)
  have hc := hT.1
  let PP : Nat → MS → Prop := fun q m' => CQ' q m m' (eGu T x y) (gu T x.toNatClampNeg)
  refine B.run okX11_rates [] 60 ?_
  refine At.mI [vI x] [] B.1 (n_isTank r hT x) kX11_isTank ln_X11_114 F1 (dcV okX11_rates rfl) ?_
  refine B.run okX11_rates [] 60 ?_
  constructor
  · intro h
    exact rQ (q := 1) (P := PP) (by unfold fRat; rw [if_neg (by rw [b2_eq0.mp h]; decide)]) rfl (CQ'.no (by decide))
  · intro h
    have h1 := b2_ne0.mp h
    refine B.run okX11_rates [] 60 ?_
    refine At.mS [vI y, vI 0, vI 20] [] B.1 (n_in y 0 20) kX11_in ln_X11_43 F (dcS okX11_rates rfl) ?_
    refine B.run okX11_rates [] 60 ?_
    constructor
    · intro h2
      exact rQ (q := 2) (P := PP) (by unfold fRat; rw [if_pos h1, if_neg (by rw [b2_eq0.mp h2]; decide)]) rfl (CQ'.no (by decide))
    · intro h2
      have h3 := b2_ne0.mp h2
      have ef : fRat T x y = 0 := by unfold fRat; rw [if_pos h1, if_pos h3]
      obtain ⟨i, hi, rfl⟩ := hs_of (by omega) h1
      have eb := r.2.1 i hi
      refine B.run okX11_rates [] 60 ?_
      refine At.mI [vI (nI i), vI 4] [vR 0 0] B.1 (n_c m i 4 (by omega)) kX11_c ln_X11_57 F (dcV okX11_rates rfl) ?_
      rw [show zA m (10 + 5 * i + 4) = gu T i from eb.2.2.2.2]
      refine B.run okX11_rates [] 60 ?_
      refine ⟨trivial, ?_⟩
      refine At.mV [vI (nI i), vI 4, vI y] [] B.1 (n_set (wR m (gu T i)) i 4 y (by omega)) kX11_set ln_X11_77 F (dcV okX11_rates rfl) ?_
      refine B.run okX11_rates [] 60 ?_
      refine rQ (q := 0) (P := PP) (m' := wR (wA m (upd (zA m) (10 + 5 * i + 4) y)) (gu T i)) ef.symm rfl ?_ rfl
      have ec : (nI i).toNatClampNeg = i := nI_clamp (by omega)
      show CQ' 0 m _ (eGu T (nI i) y) (gu T (nI i).toNatClampNeg)
      unfold eGu
      rw [ec]
      exact CHR.q ⟨r.setG hT (by omega) y, fun j hj => upd_ne _ _ (by omega), rfl⟩
theorem n_transfers (r : RS T (zA m)) (hT : WF T) (x y a : Int32) : Sp 5 0 0 mX11_transfers [vR 0 0, vI x, vI y, vI a] (mdl m) (PoE (some (vI (nI (fMov T x y a)))) (fun m' => CQ' (fMov T x y a) m m' (eMov T x y a) (tmI (eMov T x y a)))) := by
  refine Sp.of' false (fun h => by cases h) (by decide) rfl rfl (Nat.le_of_ble_eq_true rfl) fun γ σ B => ?_
  have F : Fit γ 0 0 0 0 0 := fiW B (by decide) (Nat.zero_le _) (Nat.zero_le _)
  have F1 : Fit γ 0 0 1 0 0 := fiW B (by decide) (Nat.zero_le _) (Nat.zero_le _)
  have F4 : Fit γ 0 0 4 0 0 := fiW B (by decide) (Nat.zero_le _) (Nat.zero_le _)
  have hc := hT.1
  let PP : Nat → MS → Prop := fun q m' => CQ' q m m' (eMov T x y a) (tmI (eMov T x y a))
  have bad : (hsB (gc T) x && hsB (gc T) y) = false → RF 0 0 0 0 (PoE (some (vI (nI (fMov T x y a)))) (PP (fMov T x y a))) (some (vI 1)) (mdl m) := fun h => rQ (q := 1) (P := PP) (by unfold fMov; rw [if_neg (by rw [h]; decide)]) rfl (CQ'.no (by decide))
  refine B.run okX11_transfers [] 60 ?_
  refine At.mI [vI x] [] B.1 (n_isTank r hT x) kX11_isTank ln_X11_114 F1 (dcV okX11_transfers rfl) ?_
  refine B.run okX11_transfers [] 60 ?_
  constructor
  · intro h
    exact bad (by rw [b2_eq0.mp h]; rfl)
  · intro h
    have h1 := b2_ne0.mp h
    refine B.run okX11_transfers [] 60 ?_
    refine At.mI [vI y] [] B.1 (n_isTank r hT y) kX11_isTank ln_X11_114 F1 (dcV okX11_transfers rfl) ?_
    refine B.run okX11_transfers [] 60 ?_
    constructor
    · intro h2
      exact bad (by rw [b2_eq0.mp h2, Bool.and_false])
    · intro h2
      have h3 := b2_ne0.mp h2
      have h13 : (hsB (gc T) x && hsB (gc T) y) = true := by rw [h1, h3]; rfl
      refine B.run okX11_transfers [] 60 ?_
      refine At.mS [vI a] [] B.1 (n_isAmount a) kX11_isAmount ln_X11_133 F1 (dcS okX11_transfers rfl) ?_
      refine B.run okX11_transfers [] 60 ?_
      constructor
      · intro h4
        exact rQ (q := 2) (P := PP) (by unfold fMov; rw [if_pos h13, if_neg (by rw [b2_eq0.mp h4]; decide)]) rfl (CQ'.no (by decide))
      · intro h4
        have h5 := b2_ne0.mp h4
        obtain ⟨i, hi, rfl⟩ := hs_of (by omega) h1
        obtain ⟨k, hk, rfl⟩ := hs_of (by omega) h3
        refine B.run okX11_transfers [] 60 ?_
        refine At.mI [vI (nI i), vI (nI k), vI a] [] B.1 (n_isPossible r hT i k a hi hk) kX11_isPossible ln_X11_101 F1 (dcV okX11_transfers rfl) ?_
        refine B.run okX11_transfers [] 60 ?_
        constructor
        · intro h6
          exact rQ (q := 3) (P := PP) (by unfold fMov; rw [if_pos h13, if_pos h5, if_neg (by rw [b2_eq0.mp h6]; decide)]) rfl (CQ'.no (by decide))
        · intro h6
          refine B.run okX11_transfers [] 60 ?_
          refine At.mE [vI (nI i), vI (nI k), vI a] [] B.1 (n_moves r hT i k a hi hk) kX11_moves ln_X11_136 F4 (dcV okX11_transfers rfl) fun m' hm' => ?_
          refine B.run okX11_transfers [] 60 ?_
          refine rQ (q := 0) (P := PP) (m' := m') (by unfold fMov; rw [if_pos h13, if_pos h5, if_pos (b2_ne0.mp h6)]) rfl ?_ rfl
          have ee : eMov T (nI i) (nI k) a = eMovN T i k a := by unfold eMov; rw [nI_clamp (by omega), nI_clamp (by omega)]
          show CQ' 0 m m' (eMov T (nI i) (nI k) a) (tmI (eMov T (nI i) (nI k) a))
          rw [ee]
          exact CHR.q hm'
theorem n_balances (r : RS T (zA m)) (hT : WF T) (a : Int32) (C : CS) : Sp 5 0 0 mX11_balances [vR 0 0, vI a] (mdl m) (PoE (some (vI (nI (fBal T a C)))) (fun m' => CQ' (fBal T a C) m m' (eBal T a C) (tmI (eBal T a C)))) := by
  refine Sp.of' false (fun h => by cases h) (by decide) rfl rfl (Nat.le_of_ble_eq_true rfl) fun γ σ B => ?_
  have F : Fit γ 0 0 0 0 0 := fiW B (by decide) (Nat.zero_le _) (Nat.zero_le _)
  have F1 : Fit γ 0 0 1 0 0 := fiW B (by decide) (Nat.zero_le _) (Nat.zero_le _)
  have F4 : Fit γ 0 0 4 0 0 := fiW B (by decide) (Nat.zero_le _) (Nat.zero_le _)
  have F3 : Fit γ 0 0 3 0 0 := fiW B (by decide) (Nat.zero_le _) (Nat.zero_le _)
  have hc := hT.1
  let PP : Nat → MS → Prop := fun q m' => CQ' q m m' (eBal T a C) (tmI (eBal T a C))
  refine B.run okX11_balances [] 60 ?_
  refine At.mS [vI a] [] B.1 (n_isAmount a) kX11_isAmount ln_X11_133 F1 (dcS okX11_balances rfl) ?_
  refine B.run okX11_balances [] 60 ?_
  constructor
  · intro h
    have ef : fAmt a = 2 := by unfold fAmt; rw [if_neg (by rw [b2_eq0.mp h]; decide)]
    exact rQ (q := 2) (P := PP) (by unfold fBal; rw [ef]; rfl) rfl (CQ'.no (by decide))
  · intro h
    have ef : fAmt a = 0 := by unfold fAmt; rw [if_pos (b2_ne0.mp h)]
    have fb : fBal T a C = if impB (bS T a (tmI T) C) (tmI T) = true then 0 else 3 := by unfold fBal; rw [if_pos ef]
    have cin := CIn_bst T a (tmI T) C
    have cim := CIm_bst T a (tmI T) C
    refine B.run okX11_balances [] 60 ?_
    refine At.mI [vI a] [] B.1 (n_best r hT a C) kX11_best ln_X11_142 F4 (dcV okX11_balances rfl) ?_
    refine B.run okX11_balances [] 60 ?_
    refine At.mI [] [] B.1 (n_turning r hT) kX11_turning ln_X11_95 F3 (dcV okX11_balances rfl) ?_
    refine B.run okX11_balances [] 60 ?_
    refine At.mS [vI (tmI T)] [] B.1 (n_size (tmI T)) kX11_size ln_X11_98 F (dcS okX11_balances rfl) ?_
    refine B.run okX11_balances [] 60 ?_
    constructor
    · intro h2
      have hx : ¬ (bS T a (tmI T) C).1 = 0 := fun z => absurd h2 (Int32.not_le.mpr ((fnC_neg cin hc).mpr z))
      obtain z | ⟨s, t, hs, ht, e1, e2, e3⟩ := cim
      · exact absurd z hx
      have efn : fnC (bS T a (tmI T) C) = nI (8 * s + t) := by unfold fnC; rw [if_neg hx, e1, e2, ix8]
      rw [efn]
      have eb : eBal T a C = eMovN T s t a := by
        show eMov T _ _ a = _
        rw [e1, e2]
        unfold eMov
        rw [nI_clamp (by omega), nI_clamp (by omega)]
      have et : tmI (eBal T a C) = (bS T a (tmI T) C).2.2.2 := by rw [eb, tm_mov T s t a hs ht, e3]
      have SM : Sp 4 0 0 mX11_moves [vR 0 0, vI (nI (8 * s + t) / 8), vI (nI (8 * s + t) - nI (8 * s + t) / 8 * 8), vI a] (mdl m) (PoE none (fun m' => CHR m m' (eMovN T s t a) (tmI (eMovN T s t a)))) := by
        rw [mod8 _ (by omega), div8 _ (by omega), show (8 * s + t) / 8 = s by omega, show (8 * s + t) % 8 = t by omega]
        exact n_moves r hT s t a hs ht
      refine ⟨by decide, by decide, ?_⟩
      refine At.mE [vI (nI (8 * s + t) / 8), vI (nI (8 * s + t) - nI (8 * s + t) / 8 * 8), vI a] [] B.1 SM kX11_moves ln_X11_136 F4 (dcV okX11_balances rfl) fun m' hm' => ?_
      have hr : zR m' = tmI (eMovN T s t a) := by
        show m'.2.1.2.2.2 = _
        rw [hm'.2.2]
      refine B.run okX11_balances [] 60 ?_
      refine At.mS [vI (zR m')] [] B.1 (n_size (zR m')) kX11_size ln_X11_98 F (dcS okX11_balances rfl) ?_
      rw [hr, ← eb, et]
      refine B.run okX11_balances [] 60 ?_
      constructor
      · intro h3
        refine rQ (q := 3) (P := PP) (m' := m') (by rw [fb, if_neg]; unfold impB; rw [decide_eq_false (Int32.not_lt.mpr h3), Bool.and_false]; decide) rfl ⟨hm'.2.1, ⟨_, hm'.2.2⟩, fun z => by cases z⟩ rfl
      · intro h3
        refine rQ (q := 0) (P := PP) (m' := m') (by rw [fb, if_pos]; unfold impB; rw [decide_eq_true (Int32.not_le.mp h3), decide_eq_false hx]; rfl) rfl ?_ rfl
        show CQ' 0 m m' (eBal T a C) (tmI (eBal T a C))
        rw [eb]
        exact CHR.q hm'
    · intro h2
      have hx : (bS T a (tmI T) C).1 = 0 := (fnC_neg cin hc).mp (Int32.not_le.mp h2)
      exact rQ (q := 3) (P := PP) (by rw [fb, if_neg]; unfold impB; rw [decide_eq_true hx]; exact fun w => by cases w) rfl (CQ'.no (by decide))
theorem n_turnsP (r : RS T (zA m)) (hT : WF T) (x : Int32) : Sp 1 0 0 mX11_turns [vR 0 0, vI 4, vI x, vI 0, vI 8] (mdl m) (PoE (some (vI (nI (fPow x)))) (fun m' => CQ' (fPow x) m m' (ePow T x) (gpw T))) := by
  refine Sp.of' false (fun h => by cases h) (by decide) rfl rfl (Nat.le_of_ble_eq_true rfl) fun γ σ B => ?_
  have F : Fit γ 0 0 0 0 0 := fiW B (by decide) (Nat.zero_le _) (Nat.zero_le _)
  have e4 : zA m 4 = gpw T := r.1.2.2.2.2.1
  let PP : Nat → MS → Prop := fun q m' => CQ' q m m' (ePow T x) (gpw T)
  refine B.run okX11_turns [] 60 ?_
  refine At.mS [vI x, vI 0, vI 8] [] B.1 (n_in x 0 8) kX11_in ln_X11_43 F (dcS okX11_turns rfl) ?_
  refine B.run okX11_turns [] 60 ?_
  constructor
  · intro h
    exact rQ (q := 2) (P := PP) (by unfold fPow; rw [if_neg (by rw [b2_eq0.mp h]; decide)]) rfl (CQ'.no (by decide))
  · intro h
    refine ⟨vk, trivial, vk, ?_⟩
    exact rQ (q := 0) (P := PP) (m' := wR (wA m (upd (zA m) 4 x)) (zA m 4)) (by unfold fPow; rw [if_pos (b2_ne0.mp h)]) rfl (by rw [e4]; exact CHR.q ⟨r.setPw hT x, fun j hj => upd_ne _ _ (by omega), rfl⟩) rfl
theorem n_turnsL (r : RS T (zA m)) (hT : WF T) (x : Int32) : Sp 1 0 0 mX11_turns [vR 0 0, vI 5, vI x, vI 1, vI 9] (mdl m) (PoE (some (vI (nI (fLim x)))) (fun m' => CQ' (fLim x) m m' (eLim T x) (glm T))) := by
  refine Sp.of' false (fun h => by cases h) (by decide) rfl rfl (Nat.le_of_ble_eq_true rfl) fun γ σ B => ?_
  have F : Fit γ 0 0 0 0 0 := fiW B (by decide) (Nat.zero_le _) (Nat.zero_le _)
  have e4 : zA m 5 = glm T := r.1.2.2.2.2.2.1
  let PP : Nat → MS → Prop := fun q m' => CQ' q m m' (eLim T x) (glm T)
  refine B.run okX11_turns [] 60 ?_
  refine At.mS [vI x, vI 1, vI 9] [] B.1 (n_in x 1 9) kX11_in ln_X11_43 F (dcS okX11_turns rfl) ?_
  refine B.run okX11_turns [] 60 ?_
  constructor
  · intro h
    exact rQ (q := 2) (P := PP) (by unfold fLim; rw [if_neg (by rw [b2_eq0.mp h]; decide)]) rfl (CQ'.no (by decide))
  · intro h
    refine ⟨vk, trivial, vk, ?_⟩
    exact rQ (q := 0) (P := PP) (m' := wR (wA m (upd (zA m) 5 x)) (zA m 5)) (by unfold fLim; rw [if_pos (b2_ne0.mp h)]) rfl (by rw [e4]; exact CHR.q ⟨r.setLm hT x, fun j hj => upd_ne _ _ (by omega), rfl⟩) rfl
end NC2
