/-! ===== the model: storms planned, minutes pass ===== -/
/-- so many minutes may pass: each sum fits -/
def PKs : Nat → SH → Prop
  | 0, _ => True
  | n + 1, S => gsk S = 0 → PK S ∧ PKs n (tick S)
theorem wR2 {m m' : MS} {x : Int32} (h : m'.2 = m.2) : (wR m' x).2 = (wR m x).2 := by
  show ((m'.2.1.1, m'.2.1.2.1, m'.2.1.2.2.1, x), m'.2.2) = _
  rw [h]
section NP
variable {m : MS} {T : SH}
theorem n_plans (r : RS T (zA m)) (hT : WF T) {N : Nat} (hN : gmn T = nI N) (hN2 : N < 1073741824) (x y : Int32) : Sp 1 0 0 mX11_plans [vR 0 0, vI x, vI y] (mdl m) (PoE (some (vI (nI (fSch T x y)))) (fun m' => CQ' (fSch T x y) m m' (schT T x y) (nI (gsc T + 1)))) := by
  refine Sp.of' false (fun h => by cases h) (by decide) rfl rfl (Nat.le_of_ble_eq_true rfl) fun γ σ B => ?_
  have F : Fit γ 0 0 0 0 0 := fiW B (by decide) (Nat.zero_le _) (Nat.zero_le _)
  have e0 : zA m 0 = gmn T := r.1.1
  have e7 : zA m 7 = nI (gsc T) := r.1.2.2.2.2.2.2.2.1
  have hs := hT.2.2.1
  let PP : Nat → MS → Prop := fun q m' => CQ' q m m' (schT T x y) (nI (gsc T + 1))
  have bad : ¬ (gmn T < x ∧ x - gmn T ≤ 999 ∧ wiB y 1 9 = true) → RF 0 0 0 0 (PoE (some (vI (nI (fSch T x y)))) (PP (fSch T x y))) (some (vI 2)) (mdl m) := fun h => rQ (q := 2) (P := PP) (by unfold fSch; rw [if_neg h]) rfl (CQ'.no (by decide))
  have far : gmn T < x → (gmn T + 999 < x ↔ ¬ x - gmn T ≤ 999) := by
    rw [hN]
    intro h
    have h1 : (nI N).toInt = (N : Int) := nI_toInt (by omega)
    have h2 : (nI N + 999).toInt = (N : Int) + 999 := by
      rw [show nI N + 999 = nI (N + 999) from nI_add N 999, nI_toInt (by omega)]
      omega
    rw [Int32.lt_iff_toInt_lt, h1] at h
    have h3 := x.toInt_lt
    have h4 : (x - nI N).toInt = x.toInt - N := by
      rw [Int32.toInt_sub, h1, Int.bmod_eq_of_le (by omega) (by omega)]
    rw [Int32.lt_iff_toInt_lt, Int32.le_iff_toInt_le, h2, h4]
    show _ ↔ ¬ x.toInt - N ≤ 999
    omega
  refine B.run okX11_plans [] 60 ?_
  refine ⟨vk, ?_⟩
  constructor
  · intro h
    have h : x ≤ zA m 0 := h
    rw [e0] at h
    exact bad (fun z => absurd z.1 (Int32.not_lt.mpr h))
  · intro h
    have h : ¬ x ≤ zA m 0 := h
    rw [e0] at h
    have h1 := Int32.not_le.mp h
    refine ⟨vk, ?_⟩
    constructor
    · intro h2
      have h2 : zA m 0 + 999 < x := h2
      rw [e0] at h2
      exact bad (fun z => (far h1).mp h2 z.2.1)
    · intro h2
      have h2 : ¬ zA m 0 + 999 < x := h2
      rw [e0] at h2
      have h3 : x - gmn T ≤ 999 := by
        by_cases z : x - gmn T ≤ 999
        · exact z
        · exact absurd ((far h1).mpr z) h2
      refine B.run okX11_plans [] 60 ?_
      refine At.mS [vI y, vI 1, vI 9] [] B.1 (n_in y 1 9) kX11_in ln_X11_43 F (dcS okX11_plans rfl) ?_
      refine B.run okX11_plans [] 60 ?_
      constructor
      · intro h4
        exact bad (fun z => by have := z.2.2; rw [b2_eq0.mp h4] at this; cases this)
      · intro h4
        have h5 := b2_ne0.mp h4
        have hA : gmn T < x ∧ x - gmn T ≤ 999 ∧ wiB y 1 9 = true := ⟨h1, h3, h5⟩
        have full : ¬ (¬ fst (eqB (gmi T) x) (gsc T) < gsc T ∧ gsc T < 6) → RF 0 0 0 0 (PoE (some (vI (nI (fSch T x y)))) (PP (fSch T x y))) (some (vI 3)) (mdl m) := fun h6 => rQ (q := 3) (P := PP) (by unfold fSch; rw [if_pos hA, if_neg h6]) rfl (CQ'.no (by decide))
        refine B.run okX11_plans [] 60 ?_
        refine At.mI [vI x] [] B.1 (n_storm r hT x) kX11_storm ln_X11_81 F (dcV okX11_plans rfl) ?_
        refine B.run okX11_plans [] 60 ?_
        constructor
        · intro h6
          obtain ⟨hq, -⟩ := fnd_some (by omega) (Int32.not_lt.mpr h6)
          exact full (fun z => z.1 hq)
        · intro h6
          obtain ⟨hq, -⟩ := fnd_none (by omega) (Int32.not_le.mp h6)
          refine ⟨vk, ?_⟩
          constructor
          · intro h7
            have h7 : zA m 7 = 6 := h7
            rw [e7] at h7
            have h8 : gsc T = 6 := (nI_eq (by omega) (by decide)).mp h7
            exact full (fun z => by omega)
          · intro h7
            have h7 : ¬ zA m 7 = 6 := h7
            rw [e7] at h7
            have h8 : gsc T < 6 := by
              rcases Nat.lt_or_ge (gsc T) 6 with z | z
              · exact z
              · exact absurd (show nI (gsc T) = 6 by rw [show gsc T = 6 by omega]; rfl) h7
            have e98 : (98 : Int32) + 2 * zA m 7 = nI (98 + 2 * gsc T) := by rw [e7]; exact ix2 98 (gsc T)
            obtain ⟨g1, hg1⟩ : ∃ g, g = upd (zA m) (98 + 2 * gsc T) x := ⟨_, rfl⟩
            have n7 : g1 7 = zA m 7 := by rw [hg1]; exact upd_ne _ _ (by omega)
            have eg1 : upd (zA m) ((98 : Int32) + 2 * zA m 7).toNatClampNeg x = g1 := by rw [e98, nI_clamp (by omega), hg1]
            obtain ⟨g2, hg2⟩ : ∃ g, g = upd g1 (98 + 2 * gsc T + 1) y := ⟨_, rfl⟩
            have n77 : g2 7 = zA m 7 := by rw [hg2, upd_ne _ _ (by omega)]; exact n7
            have e99 : (98 : Int32) + 2 * g1 7 + 1 = nI (98 + 2 * gsc T + 1) := by rw [n7, e98, nI_1]
            have eg2 : upd g1 ((98 : Int32) + 2 * g1 7 + 1).toNatClampNeg y = g2 := by rw [e99, nI_clamp (by omega), hg2]
            refine ⟨vk, ?_, vk, ?_, vk, vk, vk, trivial, ?_⟩
            · show vp_in ((98 : Int32) + 2 * zA m 7) 1392
              rw [e98]; exact vp_in_nI (by omega) (by decide)
            · show vp_in ((98 : Int32) + 2 * (upd (zA m) ((98 : Int32) + 2 * zA m 7).toNatClampNeg x) 7 + 1) 1392
              rw [eg1, e99]; exact vp_in_nI (by omega) (by decide)
            refine rQ (q := 0) (P := PP) (m' := wR (wA m (fSchR (zA m) (gsc T) x y)) (nI (gsc T + 1))) (by unfold fSch; rw [if_pos hA, if_pos ⟨hq, h8⟩]) rfl (CHR.q ⟨r.sch hT h8 x y, fun j hj => ?_, rfl⟩) ?_
            · show fSchR (zA m) (gsc T) x y j = _
              rw [fSchR, upd_ne _ _ (by omega), upd_ne _ _ (by omega), upd_ne _ _ (by omega)]
            · have ef : upd g2 7 (g2 7 + 1) = fSchR (zA m) (gsc T) x y := by rw [n77, hg2, hg1]
              have ev : nI (gsc T + 1) = upd g2 7 (g2 7 + 1) 7 := by rw [upd_eq, n77, e7, nI_1]
              rw [ev, ← ef, ← eg2, ← eg1]
              rfl
theorem n_cancels (r : RS T (zA m)) (hT : WF T) (x : Int32) : Sp 1 0 0 mX11_cancels [vR 0 0, vI x] (mdl m) (PoE (some (vI (nI (fStm T x)))) (fun m' => CQ' (fStm T x) m m' (eCan T x) (gsg T (tq T x)))) := by
  refine Sp.of' false (fun h => by cases h) (by decide) rfl rfl (Nat.le_of_ble_eq_true rfl) fun γ σ B => ?_
  have F : Fit γ 0 0 0 0 0 := fiW B (by decide) (Nat.zero_le _) (Nat.zero_le _)
  have hs := hT.2.2.1
  let PP : Nat → MS → Prop := fun q m' => CQ' q m m' (eCan T x) (gsg T (tq T x))
  refine B.run okX11_cancels [] 60 ?_
  refine At.mI [vI x] [] B.1 (n_storm r hT x) kX11_storm ln_X11_81 F (dcV okX11_cancels rfl) ?_
  refine B.run okX11_cancels [] 60 ?_
  constructor
  · intro h
    obtain ⟨hq, eq⟩ := fnd_some (by omega) (Int32.not_lt.mpr h)
    rw [eq]
    refine B.run okX11_cancels [] 60 ?_
    refine At.mE [vI (nI (tq T x))] [vR 0 0] B.1 (n_passesBy r hT (tq T x) hq) kX11_passesBy ln_X11_74 F (dcV okX11_cancels rfl) fun m' hm' => ?_
    refine B.run okX11_cancels [] 60 ?_
    exact ⟨trivial, rQ (q := 0) (P := PP) (m' := wR m' (gsg T (tq T x))) (by unfold fStm; rw [if_pos hq]) rfl (CHR.q ⟨hm'.1, hm'.2.1, wR2 hm'.2.2⟩) rfl⟩
  · intro h
    obtain ⟨hq, eq⟩ := fnd_none (by omega) (Int32.not_le.mp h)
    exact rQ (q := 4) (P := PP) (by unfold fStm; rw [if_neg hq]) rfl (CQ'.no (by decide))
theorem n_passes (r : RS T (zA m)) (hT : WF T) (x : Int32) (hp : wiB x 1 120 = true → PKs x.toNatClampNeg T) : Sp 5 0 0 mX11_passes [vR 0 0, vI x] (mdl m) (PoE (some (vI (nI (fPas T x)))) (fun m' => CQ' (fPas T x) m m' (ePas T x) (nI (tkc x.toNatClampNeg T)))) := by
  refine Sp.of' false (fun h => by cases h) (by decide) rfl rfl (Nat.le_of_ble_eq_true rfl) fun γ σ B => ?_
  have F : Fit γ 0 0 0 0 0 := fiW B (by decide) (Nat.zero_le _) (Nat.zero_le _)
  have F4 : Fit γ 0 0 4 0 0 := fiW B (by decide) (Nat.zero_le _) (Nat.zero_le _)
  have e6 : zA m 6 = gsk T := r.1.2.2.2.2.2.2.1
  let PP : Nat → MS → Prop := fun q m' => CQ' q m m' (ePas T x) (nI (tkc x.toNatClampNeg T))
  refine B.run okX11_passes [] 60 ?_
  refine At.mS [vI x, vI 1, vI 120] [] B.1 (n_in x 1 120) kX11_in ln_X11_43 F (dcS okX11_passes rfl) ?_
  refine B.run okX11_passes [(27, [0, 1, 2])] 60 ?_
  constructor
  · intro h
    exact rQ (q := 2) (P := PP) (by unfold fPas; rw [if_neg (by rw [b2_eq0.mp h]; decide)]) rfl (CQ'.no (by decide))
  · intro h
    have h1 := b2_ne0.mp h
    have hw : ∃ n : Nat, n ≤ 120 ∧ x = nI n := by
      unfold wiB at h1
      simp only [Bool.and_eq_true, decide_eq_true_eq] at h1
      exact nI_of2 (M := 120) (n := 120) (by decide) (Int32.not_lt.mpr (Int32.le_trans (by decide) h1.1)) h1.2
    obtain ⟨n, hn, rfl⟩ := hw
    have ec : (nI n).toNatClampNeg = n := nI_clamp (by omega)
    rw [ec] at hp
    have hp := hp h1
    refine ⟨vk, ?_⟩
    constructor
    · intro h2
      have h2 : zA m 6 = 1 := h2
      rw [e6] at h2
      exact rQ (q := 3) (P := PP) (by unfold fPas; rw [if_pos h1, if_neg (by rw [h2]; decide)]) rfl (CQ'.no (by decide))
    · intro h2
      have h2 : ¬ zA m 6 = 1 := h2
      rw [e6] at h2
      have h3 : gsk T = 0 := hT.2.2.2.2.1.resolve_right h2
      have ef : fPas T (nI n) = 0 := by unfold fPas; rw [if_pos h1, if_pos h3]
      have loop : ∀ (j i : Nat), i + j = n → ∀ (m' : MS) (T' : SH), CH m m' T' → WF T' → PKs j T' → tks j T' = tks n T → i + tkc j T' = tkc n T → At γ σ 0 0 27 [(0, vR 0 0), (1, vI (nI n)), (2, vI (nI i))] [] (mdl m') := by
        intro j
        have out : ∀ (i : Nat) (m' : MS), CH m m' (tks n T) → i = tkc n T → At γ σ 0 0 52 [(0, vR 0 0), (1, vI (nI n)), (2, vI (nI i))] [] (mdl m') := fun i m' hm' e => by
          refine B.run okX11_passes [] 60 ?_
          refine ⟨trivial, rQ (q := 0) (P := PP) (m' := wR m' (nI i)) ef.symm rfl ?_ rfl⟩
          show CQ' 0 m _ (ePas T (nI n)) (nI (tkc (nI n).toNatClampNeg T))
          unfold ePas
          rw [ec, ← e]
          exact CHR.q ⟨hm'.1, hm'.2.1, wR2 hm'.2.2⟩
        induction j with
        | zero =>
          intro i hi m' T' hm' hT' _ e1 e2
          have hi : i = n := by omega
          refine B.run okX11_passes [(52, [0, 1, 2])] 60 ?_
          constructor
          · intro _
            exact out i m' (by rw [← e1]; exact hm') e2
          · intro q
            exact absurd (show nI n ≤ nI i by rw [hi]; exact Int32.le_refl _) q
        | succ j ih =>
          intro i hi m' T' hm' hT' hk e1 e2
          have e6' : zA m' 6 = gsk T' := hm'.1.1.2.2.2.2.2.2.1
          refine B.run okX11_passes [(27, [0, 1, 2]), (52, [0, 1, 2])] 60 ?_
          constructor
          · intro q
            exact absurd q (nI_ge (by omega) (by omega))
          · intro _
            refine ⟨vk, ?_⟩
            constructor
            · intro q
              have q : zA m' 6 = 0 := q
              rw [e6'] at q
              have t1 : tks (j + 1) T' = tks j (tick T') := by
                show (if gsk T' = 0 then _ else _) = _
                rw [if_pos q]
              have t2 : tkc (j + 1) T' = tkc j (tick T') + 1 := by
                show (if gsk T' = 0 then _ else _) = _
                rw [if_pos q]
              rw [t1] at e1
              rw [t2] at e2
              obtain ⟨k1, k2⟩ := hk q
              refine B.run okX11_passes [(27, [0, 1, 2])] 60 ?_
              refine At.mE [] [] B.1 (n_ticks hm'.1 hT' q k1) kX11_ticks ln_X11_158 F4 (dcV okX11_passes rfl) fun m2 hm2 => ?_
              have z := ih (i + 1) (by omega) m2 (tick T') (hm'.tr hm2) (WF_tick hT') k2 e1 (by omega)
              rw [← nI_1] at z
              refine B.run okX11_passes [(27, [0, 1, 2])] 60 ?_
              exact z
            · intro q
              have q : ¬ zA m' 6 = 0 := q
              rw [e6'] at q
              have t1 : tks (j + 1) T' = T' := by
                show (if gsk T' = 0 then _ else _) = _
                rw [if_neg q]
              have t2 : tkc (j + 1) T' = 0 := by
                show (if gsk T' = 0 then _ else _) = _
                rw [if_neg q]
              rw [t1] at e1
              rw [t2] at e2
              exact out i m' (by rw [← e1]; exact hm') e2
      exact loop n 0 (by omega) m T (CH.rf r) hT hp rfl (by omega)
end NP
