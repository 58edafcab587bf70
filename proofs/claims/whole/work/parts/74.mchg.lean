/-! ===== the model: the changes ===== -/
section NC
variable {m : MS} {T : SH}
theorem rQ {mc ms : Nat} {q q2 : Nat} {P : Nat → MS → Prop} {m' : MS} {x : Int32} (e : q = q2) (hx : x = nI q) (hP : P q m') {h : AHp} (eh : h = mdl m' := by rfl) : RF 0 0 mc ms (PoE (some (vI (nI q2))) (P q2)) (some (vI x)) h := by
  subst e; subst hx
  exact rE hP eh
theorem n_adds (r : RS T (zA m)) (hT : WF T) (x y : Int32) : Sp 1 0 0 mX11_adds [vR 0 0, vI x, vI y] (mdl m) (PoE (some (vI (nI (fAdd T x y)))) (fun m' => CQ' (fAdd T x y) m m' (eAdd T x y) (nI (gc T)))) := by
  refine Sp.of' false (fun h => by cases h) (by decide) rfl rfl (Nat.le_of_ble_eq_true rfl) fun γ σ B => ?_
  have F : Fit γ 0 0 0 0 0 := fiW B (by decide) (Nat.zero_le _) (Nat.zero_le _)
  have e1 : zA m 1 = nI (gc T) := r.1.2.1
  have hc8 := hT.1
  let PP : Nat → MS → Prop := fun q m' => CQ' q m m' (eAdd T x y) (nI (gc T))
  have bad : (wiB x (-9) 9 && wiB y 10 200) = false → RF 0 0 0 0 (PoE (some (vI (nI (fAdd T x y)))) (PP (fAdd T x y))) (some (vI 2)) (mdl m) := fun h => rQ (q := 2) (P := PP) (by unfold fAdd; rw [if_neg (by rw [h]; decide)]) rfl (CQ'.no (by decide))
  have good : (wiB x (-9) 9 && wiB y 10 200) = true → At γ σ 0 0 25 [(0, vR 0 0), (1, vI x), (2, vI y)] [] (mdl m) := fun h => by
    refine B.run okX11_adds [] 60 ?_
    refine ⟨vk, ?_⟩
    constructor
    · intro h2
      have h2 : zA m 1 = 8 := h2
      rw [e1] at h2
      have h8 : gc T = 8 := (nI_eq (by omega) (by decide)).mp h2
      exact rQ (q := 3) (P := PP) (by unfold fAdd; rw [if_pos h, if_neg (by omega)]) rfl (CQ'.no (by decide))
    · intro h2
      have h2 : ¬ zA m 1 = 8 := h2
      rw [e1] at h2
      have h8 : gc T < 8 := by
        rcases Nat.lt_or_ge (gc T) 8 with z | z
        · exact z
        · exact absurd (show nI (gc T) = 8 by rw [show gc T = 8 by omega]; rfl) h2
      refine ⟨vk, vk, ?_⟩
      show At γ σ 0 0 54 [(0, vR 0 0), (1, vI x), (2, vI y), (3, vI (zA m 1))] [vI x, vI 0, vI (zA m 1), vR 0 0] (mdl (wA m (upd (zA m) 1 (zA m 1 + 1))))
      rw [show (vI (zA m 1) : AV) = vI (nI (gc T)) from by rw [e1]]
      refine At.mV [vI (nI (gc T)), vI 0, vI x] [] B.1 (n_set (wA m (upd (zA m) 1 (zA m 1 + 1))) (gc T) 0 x (by omega)) kX11_set ln_X11_77 F (dcV okX11_adds rfl) ?_
      refine B.run okX11_adds [] 60 ?_
      refine At.mV [vI (nI (gc T)), vI 1, vI y] [] B.1 (n_set (wA m (upd (upd (zA m) 1 (zA m 1 + 1)) (10 + 5 * gc T + 0) x)) (gc T) 1 y (by omega)) kX11_set ln_X11_77 F (dcV okX11_adds rfl) ?_
      refine B.run okX11_adds [] 60 ?_
      refine At.mV [vI (nI (gc T)), vI 2, vI 0] [] B.1 (n_set (wA m (upd (upd (upd (zA m) 1 (zA m 1 + 1)) (10 + 5 * gc T + 0) x) (10 + 5 * gc T + 1) y)) (gc T) 2 0 (by omega)) kX11_set ln_X11_77 F (dcV okX11_adds rfl) ?_
      refine B.run okX11_adds [] 60 ?_
      refine At.mV [vI (nI (gc T)), vI 3, vI 0] [] B.1 (n_set (wA m (upd (upd (upd (upd (zA m) 1 (zA m 1 + 1)) (10 + 5 * gc T + 0) x) (10 + 5 * gc T + 1) y) (10 + 5 * gc T + 2) 0)) (gc T) 3 0 (by omega)) kX11_set ln_X11_77 F (dcV okX11_adds rfl) ?_
      refine B.run okX11_adds [] 60 ?_
      refine At.mV [vI (nI (gc T)), vI 4, vI 5] [] B.1 (n_set (wA m (upd (upd (upd (upd (upd (zA m) 1 (zA m 1 + 1)) (10 + 5 * gc T + 0) x) (10 + 5 * gc T + 1) y) (10 + 5 * gc T + 2) 0) (10 + 5 * gc T + 3) 0)) (gc T) 4 5 (by omega)) kX11_set ln_X11_77 F (dcV okX11_adds rfl) ?_
      refine B.run okX11_adds [] 60 ?_
      refine ⟨trivial, ?_⟩
      refine rQ (q := 0) (P := PP) (m' := wR (wA m (fAddR (zA m) (gc T) x y)) (nI (gc T))) (by unfold fAdd; rw [if_pos h, if_pos h8]) rfl (CHR.q ⟨r.add hT h8 x y, fun j hj => ?_, rfl⟩) rfl
      show fAddR (zA m) (gc T) x y j = _
      rw [fAddR, upd_ne _ _ (by omega), upd_ne _ _ (by omega), upd_ne _ _ (by omega), upd_ne _ _ (by omega), upd_ne _ _ (by omega), upd_ne _ _ (by omega)]
  refine B.run okX11_adds [] 60 ?_
  refine At.mS [vI x, vI (-9), vI 9] [] B.1 (n_in x (-9) 9) kX11_in ln_X11_43 F (dcS okX11_adds rfl) ?_
  refine B.run okX11_adds [(25, [0, 1, 2])] 60 ?_
  constructor
  · intro h
    exact bad (by rw [b2_eq0.mp h]; rfl)
  · intro h
    refine B.run okX11_adds [(25, [0, 1, 2])] 60 ?_
    refine At.mS [vI y, vI 10, vI 200] [] B.1 (n_in y 10 200) kX11_in ln_X11_43 F (dcS okX11_adds rfl) ?_
    refine B.run okX11_adds [(25, [0, 1, 2])] 60 ?_
    constructor
    · intro h2
      exact bad (by rw [b2_eq0.mp h2, Bool.and_false])
    · intro h2
      exact good (by rw [b2_ne0.mp h, b2_ne0.mp h2]; rfl)
theorem n_loads (r : RS T (zA m)) (hT : WF T) (x y : Int32) : Sp 4 0 0 mX11_loads [vR 0 0, vI x, vI y] (mdl m) (PoE (some (vI (nI (fLoad T x y)))) (fun m' => CQ' (fLoad T x y) m m' (ePut T x y) (gnx T))) := by
  refine Sp.of' false (fun h => by cases h) (by decide) rfl rfl (Nat.le_of_ble_eq_true rfl) fun γ σ B => ?_
  have F : Fit γ 0 0 0 0 0 := fiW B (by decide) (Nat.zero_le _) (Nat.zero_le _)
  have F1 : Fit γ 0 0 1 0 0 := fiW B (by decide) (Nat.zero_le _) (Nat.zero_le _)
  have F3 : Fit γ 0 0 3 0 0 := fiW B (by decide) (Nat.zero_le _) (Nat.zero_le _)
  have e2 : zA m 2 = nI (gp T) := r.1.2.2.1
  have e3 : zA m 3 = gnx T := r.1.2.2.2.1
  have hp := hT.2.1
  let PP : Nat → MS → Prop := fun q m' => CQ' q m m' (ePut T x y) (gnx T)
  refine B.run okX11_loads [] 60 ?_
  refine At.mI [vI x] [] B.1 (n_isTank r hT x) kX11_isTank ln_X11_114 F1 (dcV okX11_loads rfl) ?_
  refine B.run okX11_loads [] 60 ?_
  constructor
  · intro h
    exact rQ (q := 1) (P := PP) (by unfold fLoad; rw [if_neg (by rw [b2_eq0.mp h]; decide)]) rfl (CQ'.no (by decide))
  · intro h
    have h1 := b2_ne0.mp h
    refine B.run okX11_loads [] 60 ?_
    refine At.mS [vI y, vI 1, vI 50] [] B.1 (n_in y 1 50) kX11_in ln_X11_43 F (dcS okX11_loads rfl) ?_
    refine B.run okX11_loads [] 60 ?_
    constructor
    · intro h2
      exact rQ (q := 2) (P := PP) (by unfold fLoad; rw [if_pos h1, if_neg (by rw [b2_eq0.mp h2]; decide)]) rfl (CQ'.no (by decide))
    · intro h2
      have h3 := b2_ne0.mp h2
      have full : ¬ (gp T < 16 ∧ twI T + y ≤ 900) → RF 0 0 0 0 (PoE (some (vI (nI (fLoad T x y)))) (PP (fLoad T x y))) (some (vI 3)) (mdl m) := fun h4 => rQ (q := 3) (P := PP) (by unfold fLoad; rw [if_pos h1, if_pos h3, if_neg h4]) rfl (CQ'.no (by decide))
      refine ⟨vk, ?_⟩
      constructor
      · intro h4
        have h4 : zA m 2 = 16 := h4
        rw [e2] at h4
        have h5 : gp T = 16 := (nI_eq (by omega) (by decide)).mp h4
        exact full (fun z => by omega)
      · intro h4
        have h4 : ¬ zA m 2 = 16 := h4
        rw [e2] at h4
        have h5 : gp T < 16 := by
          rcases Nat.lt_or_ge (gp T) 16 with z | z
          · exact z
          · exact absurd (show nI (gp T) = 16 by rw [show gp T = 16 by omega]; rfl) h4
        refine B.run okX11_loads [] 60 ?_
        refine At.mI [] [] B.1 (n_total r hT) kX11_total ln_X11_91 F3 (dcV okX11_loads rfl) ?_
        refine B.run okX11_loads [] 60 ?_
        have e50 : (50 : Int32) + 3 * zA m 2 = nI (50 + 3 * gp T) := by rw [e2]; exact ix3 50 (gp T)
        have e51 : (50 : Int32) + 3 * zA m 2 + 1 = nI (50 + 3 * gp T + 1) := by rw [e50, nI_1]
        have e52 : (50 : Int32) + 3 * zA m 2 + 2 = nI (50 + 3 * gp T + 2) := by rw [e50]; exact nI_add _ 2
        constructor
        · intro h6
          refine ⟨vk, vk, trivial, ?_, ?_, ?_, vk, vk, vk, vk, ?_⟩
          · show vp_in ((50 : Int32) + 3 * zA m 2) 1392
            rw [e50]; exact vp_in_nI (by omega) (by decide)
          · show vp_in ((50 : Int32) + 3 * zA m 2 + 1) 1392
            rw [e51]; exact vp_in_nI (by omega) (by decide)
          · show vp_in ((50 : Int32) + 3 * zA m 2 + 2) 1392
            rw [e52]; exact vp_in_nI (by omega) (by decide)
          obtain ⟨g, hg⟩ : ∃ g, g = upd (upd (upd (zA m) (50 + 3 * gp T) (zA m 3)) (50 + 3 * gp T + 1) y) (50 + 3 * gp T + 2) x := ⟨_, rfl⟩
          have g2 : g 2 = zA m 2 := by rw [hg, upd_ne _ _ (by omega), upd_ne _ _ (by omega), upd_ne _ _ (by omega)]
          have g3 : upd g 2 (g 2 + 1) 3 = zA m 3 := by rw [upd_ne _ _ (by omega), hg, upd_ne _ _ (by omega), upd_ne _ _ (by omega), upd_ne _ _ (by omega)]
          have eg : upd (upd (upd (zA m) ((50 : Int32) + 3 * zA m 2).toNatClampNeg (zA m 3)) ((50 : Int32) + 3 * zA m 2 + 1).toNatClampNeg y) ((50 : Int32) + 3 * zA m 2 + 2).toNatClampNeg x = g := by
            rw [e52, e51, e50, nI_clamp (by omega), nI_clamp (by omega), nI_clamp (by omega), hg]
          refine rQ (q := 0) (P := PP) (m' := wR (wA m (fPutR (zA m) (gp T) x y)) (gnx T)) (by unfold fLoad; rw [if_pos h1, if_pos h3, if_pos ⟨h5, h6⟩]) rfl (CHR.q ⟨r.put hT h5 x y, fun j hj => ?_, rfl⟩) ?_
          · show fPutR (zA m) (gp T) x y j = _
            rw [fPutR, upd_ne _ _ (by omega), upd_ne _ _ (by omega), upd_ne _ _ (by omega), upd_ne _ _ (by omega), upd_ne _ _ (by omega)]
          · have ef : upd (upd g 2 (g 2 + 1)) 3 (upd g 2 (g 2 + 1) 3 + 1) = fPutR (zA m) (gp T) x y := by rw [g3, g2, hg]
            rw [← ef, ← eg, ← e3]
            rfl
        · intro h6
          exact full (fun z => h6 z.2)
end NC
